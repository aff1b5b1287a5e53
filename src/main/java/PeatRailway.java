/**
 * A peat bog railway: a single track on mats that sink under loads and rise by rest, and the
 * trains that carry peat over it from the bog to the works and come back empty.
 *
 * <p>All that an object ever needs is made in its constructor: no later call makes an object or
 * an array.
 */
public final class PeatRailway {
    public static final int NONE = -1, BAD = -2, STATE = -3, FULL = -4;

    private static final String FIRST_TRACK = "0p,4,4,2p,4,4,0p";

    private static final int LIMIT = 0, RECOVERY = 1, RULE = 2;
    private static final int SETTINGS = 3;
    private static final int[] FIRST_VALUE = {300, 5, 0};
    private static final int[] LEAST_VALUE = {10, 1, 0};
    private static final int[] MOST_VALUE = {900, 50, 2};

    private static final int UP_FIRST = 0, ALL_ALIKE = 2;

    private static final int LEAST_SEGMENTS = 3, MOST_SEGMENTS = 12;
    private static final int MOST_TRAINS = 4, MOST_WAGONS = 6, MOST_LOAD = 20;
    private static final int ROOM_ON_TRACK = 1, ROOM_TO_PASS = 2, ROOM_FOR_ALL = MOST_TRAINS;
    private static final int MOST_SINKING = 999;
    private static final int MOST_DUG = 1000, MOST_STOCK = 5000;
    private static final int MOST_TICKS = 200, FURTHEST_TICK = 500, MOST_WANTED = 1000;
    private static final int MOST_TEXT = 40, LEAST_CODE = 32, MOST_CODE = 126;
    private static final int HISTORY = 8, IMAGES = 2;

    private static final int NO_REASON = 0, NO_PEAT = 1, SUNK = 2, NO_ROOM = 3, ONCOMING = 4,
            CROWDED = 5;

    private static final int SEGMENT_PROPERTIES = 7, TRAIN_PROPERTIES = 10, ACCOUNTS = 5,
            COUNTS = 8, FORECASTS = 4;

    private static final long HASH_START = 2069, HASH_FACTOR = 31;
    private static final int HASH_TICKS = 50;

    private static final int EXPONENT_BIAS = 1023, MANTISSA_BITS = 52, MOST_HALVINGS = 1100;

    private final InputText text;
    private final State now;
    private final State trial;
    private final History history;
    private final State[] images;
    private int keptImages;

    public PeatRailway() {
        InputText firstText = new InputText();
        for (int i = 0; i < FIRST_TRACK.length(); i++) {
            firstText.append(FIRST_TRACK.charAt(i));
        }
        State firstState = new State();
        firstText.layOnto(firstState);
        firstText.wipe();
        text = firstText;
        now = firstState;
        trial = new State();
        history = new History();
        images = new State[IMAGES];
        for (int i = 0; i < images.length; i++) {
            images[i] = new State();
        }
    }

    // ---- text and track

    public int type(int code) {
        if (code < LEAST_CODE || code > MOST_CODE) {
            return BAD;
        }
        if (text.isFull()) {
            return FULL;
        }
        text.append((char) code);
        return text.length();
    }

    public int clear() {
        int before = text.length();
        text.wipe();
        return before;
    }

    public int fault() {
        return text.firstFault();
    }

    public int layTrack() {
        if (text.firstFault() != NONE) {
            return STATE;
        }
        history.remember(now);
        now.loseAllTrains();
        text.layOnto(now);
        text.wipe();
        return now.segmentCount;
    }

    // ---- changes

    public int set(int setting, int value) {
        if (!isSetting(setting) || value < LEAST_VALUE[setting] || value > MOST_VALUE[setting]) {
            return BAD;
        }
        history.remember(now);
        int before = now.settings[setting];
        now.settings[setting] = value;
        return before;
    }

    public int dig(int amount) {
        if (amount < 1 || amount > MOST_DUG) {
            return BAD;
        }
        if (now.stock + amount > MOST_STOCK) {
            return FULL;
        }
        history.remember(now);
        now.stock += amount;
        now.dug += amount;
        return now.stock;
    }

    public int addTrain(int wagons, int load) {
        if (wagons < 1 || wagons > MOST_WAGONS || !isLoad(load)) {
            return BAD;
        }
        if (now.trainCount >= MOST_TRAINS) {
            return FULL;
        }
        history.remember(now);
        return now.bringTrain(wagons, load);
    }

    public int dropTrain(int train) {
        Train gone = now.trainAt(train);
        if (gone == null) {
            return BAD;
        }
        history.remember(now);
        int peat = gone.peat;
        now.loseTrain(train);
        return peat;
    }

    public int setLoad(int train, int load) {
        Train named = now.trainAt(train);
        if (named == null || !isLoad(load)) {
            return BAD;
        }
        history.remember(now);
        int before = named.load;
        named.load = load;
        return before;
    }

    public int run(int ticks) {
        if (!isRun(ticks)) {
            return BAD;
        }
        history.remember(now);
        return now.pass(ticks);
    }

    // ---- history and images

    public int undo() {
        if (history.size() == 0) {
            return STATE;
        }
        history.restore(now);
        return history.size();
    }

    public int keep(int image) {
        if (!isImage(image)) {
            return BAD;
        }
        images[image].copyFrom(now);
        keptImages |= 1 << image;
        return now.clock;
    }

    public int back(int image) {
        if (!isImage(image)) {
            return BAD;
        }
        if ((keptImages & (1 << image)) == 0) {
            return STATE;
        }
        history.remember(now);
        now.copyFrom(images[image]);
        return now.clock;
    }

    // ---- what is told

    public int segment(int segment, int what) {
        Segment named = now.segmentAt(segment);
        if (named == null) {
            return BAD;
        }
        switch (what) {
            case 0: return named.softness;
            case 1: return named.isPassingPlace() ? 1 : 0;
            case 2: return named.sinking;
            case 3: return now.trainsIn(segment);
            case 4: return now.weightIn(segment);
            case 5: return named.room - now.trainsIn(segment);
            case 6: return named.ticksToRise(now.settings[LIMIT], now.settings[RECOVERY]);
            default: return BAD;
        }
    }

    public int train(int train, int what) {
        Train named = now.trainAt(train);
        if (named == null) {
            return BAD;
        }
        switch (what) {
            case 0: return named.wagons;
            case 1: return named.load;
            case 2: return named.peat;
            case 3: return named.place;
            case 4: return named.up ? 1 : 0;
            case 5: return named.rest;
            case 6: return named.reason;
            case 7: return named.waits;
            case 8: return named.unloads;
            case 9: return named.weight();
            default: return BAD;
        }
    }

    public int why(int train) {
        Train named = now.trainAt(train);
        if (named == null) {
            return BAD;
        }
        return now.reasonToWait(named);
    }

    public int account(int what) {
        switch (what) {
            case 0: return now.dug;
            case 1: return now.stock;
            case 2: return now.peatInTrains();
            case 3: return now.delivered;
            case 4: return now.lost;
            default: return BAD;
        }
    }

    public int count(int what) {
        switch (what) {
            case 0: return now.segmentCount;
            case 1: return now.trainCount;
            case 2: return now.clock;
            case 3: return now.greatestSinking();
            case 4: return now.waitsOfAll();
            case 5: return history.size();
            case 6: return keptImages;
            case 7: return now.sunkSegments();
            default: return BAD;
        }
    }

    public int setting(int setting) {
        return isSetting(setting) ? now.settings[setting] : BAD;
    }

    // ---- ahead; nothing changes

    public int ifRun(int ticks, int what) {
        if (!isRun(ticks) || what < 0 || what >= FORECASTS) {
            return BAD;
        }
        trial.copyFrom(now);
        trial.pass(ticks);
        return foreseen(what);
    }

    public int ticksFor(int amount) {
        if (amount < 1 || amount > MOST_WANTED) {
            return BAD;
        }
        trial.copyFrom(now);
        for (int ticks = 1; ticks <= FURTHEST_TICK; ticks++) {
            trial.tick();
            if (trial.delivered - now.delivered >= amount) {
                return ticks;
            }
        }
        return NONE;
    }

    public int bestRule(int ticks) {
        if (!isRun(ticks)) {
            return BAD;
        }
        int best = LEAST_VALUE[RULE];
        int most = -1;
        for (int rule = LEAST_VALUE[RULE]; rule <= MOST_VALUE[RULE]; rule++) {
            trial.copyFrom(now);
            trial.settings[RULE] = rule;
            int delivered = trial.pass(ticks);
            if (delivered > most) {
                most = delivered;
                best = rule;
            }
        }
        return best;
    }

    public int bestLoad(int train, int ticks) {
        if (now.trainAt(train) == null || !isRun(ticks)) {
            return BAD;
        }
        int best = 1;
        int most = -1;
        for (int load = 1; load <= MOST_LOAD; load++) {
            trial.copyFrom(now);
            Train tried = trial.trainAt(train);
            if (tried != null) {
                tried.load = load;
            }
            int delivered = trial.pass(ticks);
            if (delivered > most) {
                most = delivered;
                best = load;
            }
        }
        return best;
    }

    public double meanSinking() {
        if (now.segmentCount < 1) {
            return 0.0;
        }
        return (double) now.sumOfSinkings() / now.segmentCount;
    }

    public long digest() {
        long hash = HASH_START;
        for (int what = 0; what < COUNTS; what++) {
            hash = mixed(hash, count(what));
        }
        for (int which = 0; which < SETTINGS; which++) {
            hash = mixed(hash, setting(which));
        }
        for (int what = 0; what < ACCOUNTS; what++) {
            hash = mixed(hash, account(what));
        }
        hash = withTrains(withSegments(hash));
        trial.copyFrom(now);
        trial.pass(HASH_TICKS);
        for (int what = 0; what < FORECASTS; what++) {
            hash = mixed(hash, foreseen(what));
        }
        hash = mixed(hash, bitsOf(meanSinking()));
        hash = mixed(hash, text.length());
        for (int i = 0; i < text.length(); i++) {
            hash = mixed(hash, text.codeAt(i));
        }
        return hash;
    }

    // ---- helpers of the above

    private static boolean isSetting(int setting) {
        return setting >= 0 && setting < SETTINGS;
    }

    private static boolean isLoad(int load) {
        return load >= 1 && load <= MOST_LOAD;
    }

    private static boolean isRun(int ticks) {
        return ticks >= 1 && ticks <= MOST_TICKS;
    }

    private static boolean isImage(int image) {
        return image >= 0 && image < IMAGES;
    }

    /** What the trial, which has passed some ticks from now on, tells of them. */
    private int foreseen(int what) {
        switch (what) {
            case 0: return trial.delivered - now.delivered;
            case 1: return trial.greatestSinking();
            case 2: return trial.waitsOfAll() - now.waitsOfAll();
            case 3: return trial.peak;
            default: return BAD;
        }
    }

    private static long mixed(long hash, long value) {
        return HASH_FACTOR * hash + value;
    }

    private long withSegments(long hash) {
        long result = hash;
        for (int s = 0; s < now.segmentCount; s++) {
            for (int what = 0; what < SEGMENT_PROPERTIES; what++) {
                result = mixed(result, segment(s, what));
            }
        }
        return result;
    }

    private long withTrains(long hash) {
        long result = hash;
        for (int t = 0; t < now.trainCount; t++) {
            for (int what = 0; what < TRAIN_PROPERTIES; what++) {
                result = mixed(result, train(t, what));
            }
            result = mixed(result, why(t));
        }
        return result;
    }

    /**
     * Double.doubleToLongBits of a value that is 0 or a normal positive number; the library that
     * the program keeps to has no such function. Halving, doubling and the rest are exact here.
     */
    private static long bitsOf(double value) {
        if (!(value > 0.0)) {
            return 0L;
        }
        double mantissa = value;
        long exponent = EXPONENT_BIAS;
        for (int i = 0; i < MOST_HALVINGS && mantissa >= 2.0; i++) {
            mantissa = mantissa / 2.0;
            exponent++;
        }
        for (int i = 0; i < MOST_HALVINGS && mantissa < 1.0; i++) {
            mantissa = mantissa * 2.0;
            exponent--;
        }
        double fraction = (mantissa - 1.0) * (1L << MANTISSA_BITS);
        return (exponent << MANTISSA_BITS) + (long) fraction;
    }

    /** A segment of the track, and the mat under it. */
    private static final class Segment {
        int softness;
        int room;
        int sinking;
        /** The next passing places, seen from here. */
        int passingAbove;
        int passingBelow;
        /** The weight that stands here; it is used while a tick settles, and not kept. */
        int burden;

        void layDown(int newSoftness) {
            softness = newSoftness;
            room = ROOM_ON_TRACK;
            sinking = 0;
        }

        void copyFrom(Segment other) {
            softness = other.softness;
            room = other.room;
            sinking = other.sinking;
            passingAbove = other.passingAbove;
            passingBelow = other.passingBelow;
        }

        boolean isPassingPlace() {
            return room >= ROOM_TO_PASS;
        }

        int ticksToRise(int limit, int recovery) {
            if (sinking <= limit || recovery < 1) {
                return 0;
            }
            return (sinking - limit + recovery - 1) / recovery;
        }

        /** Every train weighs something, so a burden of 0 is a segment without trains. */
        void settle(int recovery) {
            if (burden == 0) {
                sinking = Math.max(sinking - recovery, 0);
            } else {
                sinking = Math.min(sinking + burden * softness / 10, MOST_SINKING);
            }
            burden = 0;
        }
    }

    /** A train. */
    private static final class Train {
        int wagons;
        int load;
        int peat;
        int place;
        boolean up;
        int rest;
        int reason;
        int waits;
        int unloads;
        /** Whether its turn in this tick is among the first; it is used in a tick, and not kept. */
        boolean early;

        void start(int newWagons, int newLoad) {
            wagons = newWagons;
            load = newLoad;
            peat = 0;
            place = 0;
            up = false;
            rest = 0;
            reason = NO_REASON;
            waits = 0;
            unloads = 0;
        }

        void copyFrom(Train other) {
            wagons = other.wagons;
            load = other.load;
            peat = other.peat;
            place = other.place;
            up = other.up;
            rest = other.rest;
            reason = other.reason;
            waits = other.waits;
            unloads = other.unloads;
        }

        int fullLoad() {
            return wagons * load;
        }

        int weight() {
            return 4 + 2 * wagons + peat;
        }
    }

    /** Everything that a change can change and that undo brings back. */
    private static final class State {
        final Segment[] segments;
        final Train[] trains;
        final int[] settings;
        int segmentCount;
        int trainCount;
        int stock;
        int dug;
        int delivered;
        int lost;
        int clock;
        /** The greatest sinking at the ends of the ticks since a pass began; it is not kept. */
        int peak;

        State() {
            segments = new Segment[MOST_SEGMENTS];
            for (int s = 0; s < segments.length; s++) {
                segments[s] = new Segment();
            }
            trains = new Train[MOST_TRAINS];
            for (int t = 0; t < trains.length; t++) {
                trains[t] = new Train();
            }
            settings = new int[SETTINGS];
            for (int i = 0; i < settings.length && i < FIRST_VALUE.length; i++) {
                settings[i] = FIRST_VALUE[i];
            }
        }

        void copyFrom(State other) {
            segmentCount = other.segmentCount;
            for (int s = 0; s < segments.length && s < other.segments.length; s++) {
                segments[s].copyFrom(other.segments[s]);
            }
            trainCount = other.trainCount;
            for (int t = 0; t < trains.length && t < other.trains.length; t++) {
                trains[t].copyFrom(other.trains[t]);
            }
            for (int i = 0; i < settings.length && i < other.settings.length; i++) {
                settings[i] = other.settings[i];
            }
            stock = other.stock;
            dug = other.dug;
            delivered = other.delivered;
            lost = other.lost;
            clock = other.clock;
        }

        /** The segment with this number; null if there is none. */
        Segment segmentAt(int segment) {
            if (segment < 0 || segment >= segmentCount || segment >= segments.length) {
                return null;
            }
            return segments[segment];
        }

        /** The train with this number; null if there is none. */
        Train trainAt(int train) {
            if (train < 0 || train >= trainCount || train >= trains.length) {
                return null;
            }
            return trains[train];
        }

        // ---- laying a track

        void beginTrack() {
            segmentCount = 0;
        }

        void appendSegment(int softness) {
            segmentCount++;
            Segment added = segmentAt(segmentCount - 1);
            if (added != null) {
                added.layDown(softness);
            }
        }

        void widenLatestSegment() {
            Segment latest = segmentAt(segmentCount - 1);
            if (latest != null) {
                latest.room = ROOM_TO_PASS;
            }
        }

        void endTrack() {
            Segment bog = segmentAt(0);
            Segment works = segmentAt(segmentCount - 1);
            if (bog != null && works != null) {
                bog.room = ROOM_FOR_ALL;
                works.room = ROOM_FOR_ALL;
            }
            int latest = 0;
            for (int s = 0; s < MOST_SEGMENTS; s++) {
                Segment here = segmentAt(s);
                if (here != null) {
                    here.passingBelow = latest;
                    latest = here.isPassingPlace() ? s : latest;
                }
            }
            // The latest passing place is the works now; the way back begins there.
            for (int s = MOST_SEGMENTS - 1; s >= 0; s--) {
                Segment here = segmentAt(s);
                if (here != null) {
                    here.passingAbove = latest;
                    latest = here.isPassingPlace() ? s : latest;
                }
            }
        }

        // ---- trains that come and go

        int bringTrain(int wagons, int load) {
            trainCount++;
            Train added = trainAt(trainCount - 1);
            if (added != null) {
                added.start(wagons, load);
            }
            return trainCount - 1;
        }

        void loseTrain(int train) {
            Train gone = trainAt(train);
            if (gone == null) {
                return;
            }
            lost += gone.peat;
            for (int t = train; t < MOST_TRAINS; t++) {
                Train here = trainAt(t);
                Train later = trainAt(t + 1);
                if (here != null && later != null) {
                    here.copyFrom(later);
                }
            }
            trainCount--;
        }

        void loseAllTrains() {
            lost += peatInTrains();
            trainCount = 0;
        }

        // ---- ticks

        /** Does some ticks and returns how much was delivered in them. */
        int pass(int ticks) {
            int before = delivered;
            peak = 0;
            for (int i = 0; i < ticks; i++) {
                tick();
            }
            return delivered - before;
        }

        void tick() {
            // The order is as the trains go now: one that turns round does not go twice.
            for (int t = 0; t < MOST_TRAINS; t++) {
                Train here = trainAt(t);
                if (here != null) {
                    here.early = goesFirst(here);
                }
            }
            for (int half = 0; half < 2; half++) {
                for (int t = 0; t < MOST_TRAINS; t++) {
                    Train here = trainAt(t);
                    if (here != null && here.early == (half == 0)) {
                        takeTurn(here);
                    }
                }
            }
            settle();
            clock++;
        }

        private boolean goesFirst(Train train) {
            int rule = settings[RULE];
            return rule == ALL_ALIKE || train.up == (rule == UP_FIRST);
        }

        private void takeTurn(Train train) {
            if (train.rest > 0) {
                train.rest--;
                train.reason = NO_REASON;
                return;
            }
            train.reason = reasonToWait(train);
            if (train.reason != NO_REASON) {
                train.waits++;
            } else if (isToUnload(train)) {
                unloadTrain(train);
            } else if (isToLoad(train)) {
                loadTrain(train);
            } else {
                moveTrain(train);
            }
        }

        private boolean isToUnload(Train train) {
            return train.up && train.place == segmentCount - 1;
        }

        private boolean isToLoad(Train train) {
            return !train.up && train.place == 0;
        }

        private void unloadTrain(Train train) {
            delivered += train.peat;
            train.peat = 0;
            train.up = false;
            train.rest = train.wagons;
            train.unloads++;
        }

        private void loadTrain(Train train) {
            train.peat = train.fullLoad();
            stock -= train.peat;
            train.up = true;
            train.rest = train.wagons;
        }

        private void moveTrain(Train train) {
            Segment next = segmentAt(placeBeyond(train));
            if (next != null) {
                train.place = placeBeyond(train);
                train.rest = 1 + next.sinking / 100;
            }
        }

        private int placeBeyond(Train train) {
            return train.up ? train.place + 1 : train.place - 1;
        }

        /** What keeps a train whose rest is 0 from going on now. */
        int reasonToWait(Train train) {
            if (isToUnload(train)) {
                return NO_REASON;
            }
            if (isToLoad(train)) {
                return stock >= train.fullLoad() ? NO_REASON : NO_PEAT;
            }
            int beyond = placeBeyond(train);
            Segment here = segmentAt(train.place);
            Segment next = segmentAt(beyond);
            if (here == null || next == null) {
                return NO_REASON;
            }
            if (next.sinking > settings[LIMIT]) {
                return SUNK;
            }
            if (trainsIn(beyond) >= next.room) {
                return NO_ROOM;
            }
            if (!here.isPassingPlace() || next.isPassingPlace()) {
                return NO_REASON;
            }
            return reasonAhead(train, train.up ? here.passingAbove : here.passingBelow);
        }

        /** What keeps a train in a passing place from setting out for the next one. */
        private int reasonAhead(Train train, int goal) {
            int ahead = 0;
            for (int t = 0; t < MOST_TRAINS; t++) {
                Train other = trainAt(t);
                if (other == null) {
                    continue;
                }
                if (isBetween(train.place, other.place, goal)) {
                    if (other.up != train.up) {
                        return ONCOMING;
                    }
                    ahead++;
                } else if (other.place == goal) {
                    ahead++;
                }
            }
            Segment place = segmentAt(goal);
            return place != null && ahead >= place.room ? CROWDED : NO_REASON;
        }

        private static boolean isBetween(int one, int middle, int other) {
            return (one < middle && middle < other) || (other < middle && middle < one);
        }

        private void settle() {
            for (int t = 0; t < MOST_TRAINS; t++) {
                Train here = trainAt(t);
                if (here != null) {
                    Segment under = segmentAt(here.place);
                    if (under != null) {
                        under.burden += here.weight();
                    }
                }
            }
            for (int s = 0; s < MOST_SEGMENTS; s++) {
                Segment here = segmentAt(s);
                if (here != null) {
                    here.settle(settings[RECOVERY]);
                    peak = Math.max(peak, here.sinking);
                }
            }
        }

        // ---- sums

        int trainsIn(int segment) {
            int sum = 0;
            for (int t = 0; t < MOST_TRAINS; t++) {
                Train here = trainAt(t);
                if (here != null && here.place == segment) {
                    sum++;
                }
            }
            return sum;
        }

        int weightIn(int segment) {
            int sum = 0;
            for (int t = 0; t < MOST_TRAINS; t++) {
                Train here = trainAt(t);
                if (here != null && here.place == segment) {
                    sum += here.weight();
                }
            }
            return sum;
        }

        int peatInTrains() {
            int sum = 0;
            for (int t = 0; t < MOST_TRAINS; t++) {
                Train here = trainAt(t);
                if (here != null) {
                    sum += here.peat;
                }
            }
            return sum;
        }

        int waitsOfAll() {
            int sum = 0;
            for (int t = 0; t < MOST_TRAINS; t++) {
                Train here = trainAt(t);
                if (here != null) {
                    sum += here.waits;
                }
            }
            return sum;
        }

        int greatestSinking() {
            int greatest = 0;
            for (int s = 0; s < MOST_SEGMENTS; s++) {
                Segment here = segmentAt(s);
                if (here != null) {
                    greatest = Math.max(greatest, here.sinking);
                }
            }
            return greatest;
        }

        int sumOfSinkings() {
            int sum = 0;
            for (int s = 0; s < MOST_SEGMENTS; s++) {
                Segment here = segmentAt(s);
                if (here != null) {
                    sum += here.sinking;
                }
            }
            return sum;
        }

        int sunkSegments() {
            int mask = 0;
            for (int s = 0; s < MOST_SEGMENTS; s++) {
                Segment here = segmentAt(s);
                if (here != null && here.sinking > settings[LIMIT]) {
                    mask |= 1 << s;
                }
            }
            return mask;
        }
    }

    /** The states before the latest changes, the oldest one first. */
    private static final class History {
        private final State[] states;
        private int size;

        History() {
            states = new State[HISTORY];
            for (int i = 0; i < states.length; i++) {
                states[i] = new State();
            }
        }

        int size() {
            return size;
        }

        void remember(State state) {
            if (size >= states.length) {
                dropOldest();
            }
            if (size >= 0 && size < states.length) {
                states[size].copyFrom(state);
                size++;
            }
        }

        /** Makes a state what it was before the latest change, and forgets that change. */
        void restore(State state) {
            if (size > 0 && size <= states.length) {
                size--;
                state.copyFrom(states[size]);
            }
        }

        /** The oldest one's object goes to the end, to be used for the next state. */
        private void dropOldest() {
            State oldest = states[0];
            for (int i = 1; i < states.length; i++) {
                states[i - 1] = states[i];
            }
            states[states.length - 1] = oldest;
            size = states.length - 1;
        }
    }

    /** The text in which a track is written. */
    private static final class InputText {
        private static final int AT_START = 0, BEHIND_DIGIT = 1, BEHIND_P = 2;

        private final char[] signs;
        private int length;

        InputText() {
            signs = new char[MOST_TEXT];
        }

        int length() {
            return length;
        }

        boolean isFull() {
            return length >= signs.length;
        }

        int codeAt(int index) {
            return index >= 0 && index < signs.length ? signs[index] : 0;
        }

        void append(char sign) {
            if (length >= 0 && length < signs.length) {
                signs[length] = sign;
                length++;
            }
        }

        void wipe() {
            length = 0;
        }

        int firstFault() {
            int place = AT_START;
            int begun = 0;
            for (int i = 0; i < length; i++) {
                int code = codeAt(i);
                if (place == AT_START) {
                    if (!isDigit(code)) {
                        return i;
                    }
                    begun++;
                    place = BEHIND_DIGIT;
                } else if (code == ',' && begun < MOST_SEGMENTS) {
                    place = AT_START;
                } else if (code == 'p' && place == BEHIND_DIGIT) {
                    place = BEHIND_P;
                } else {
                    return i;
                }
            }
            return (place == AT_START || begun < LEAST_SEGMENTS) ? length : NONE;
        }

        /** Lays the track that is written here; the text is one without a fault. */
        void layOnto(State state) {
            state.beginTrack();
            for (int i = 0; i < length; i++) {
                int code = codeAt(i);
                if (isDigit(code)) {
                    state.appendSegment(code - '0');
                } else if (code == 'p') {
                    state.widenLatestSegment();
                }
            }
            state.endTrack();
        }

        private static boolean isDigit(int code) {
            return code >= '0' && code <= '9';
        }
    }
}
