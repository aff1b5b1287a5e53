import java.util.ArrayList;
import java.util.Arrays;
import java.util.List;

/**
 * The document once more, written for the tests alone and in another way than PeatRailway: states
 * are copied anew, tracks are searched, and nothing is kept that can be found out.
 */
final class Model {
    static final class Wagons {
        int wagons, load, peat, at, rest, reason, waits, unloads;
        boolean up;

        Wagons copy() {
            Wagons w = new Wagons();
            w.wagons = wagons;
            w.load = load;
            w.peat = peat;
            w.at = at;
            w.rest = rest;
            w.reason = reason;
            w.waits = waits;
            w.unloads = unloads;
            w.up = up;
            return w;
        }

        int weight() {
            return 4 + 2 * wagons + peat;
        }
    }

    static final class World {
        int[] softness;
        boolean[] passing;
        int[] sinking;
        int[] settings = {300, 5, 0};
        List<Wagons> trains = new ArrayList<>();
        int stock, dug, delivered, lost, clock;

        World copy() {
            World w = new World();
            w.softness = softness.clone();
            w.passing = passing.clone();
            w.sinking = sinking.clone();
            w.settings = settings.clone();
            for (Wagons t : trains) {
                w.trains.add(t.copy());
            }
            w.stock = stock;
            w.dug = dug;
            w.delivered = delivered;
            w.lost = lost;
            w.clock = clock;
            return w;
        }

        int last() {
            return softness.length - 1;
        }

        void lay(String text) {
            String[] parts = text.split(",");
            softness = new int[parts.length];
            passing = new boolean[parts.length];
            sinking = new int[parts.length];
            for (int s = 0; s < parts.length; s++) {
                softness[s] = Integer.parseInt(parts[s].substring(0, 1));
                passing[s] = parts[s].endsWith("p") || s == 0 || s == last();
            }
        }

        int room(int s) {
            if (s == 0 || s == last()) {
                return 4;
            }
            return passing[s] ? 2 : 1;
        }

        int here(int s) {
            int here = 0;
            for (Wagons t : trains) {
                here += t.at == s ? 1 : 0;
            }
            return here;
        }

        int weight(int s) {
            int weight = 0;
            for (Wagons t : trains) {
                weight += t.at == s ? t.weight() : 0;
            }
            return weight;
        }

        int reason(Wagons t) {
            if (t.up && t.at == last()) {
                return 0;
            }
            if (!t.up && t.at == 0) {
                return stock >= t.wagons * t.load ? 0 : 1;
            }
            int way = t.up ? 1 : -1;
            int next = t.at + way;
            if (sinking[next] > settings[0]) {
                return 2;
            }
            if (next != 0 && next != last() && here(next) + 1 > room(next)) {
                return 3;
            }
            if (!passing[t.at] || passing[next]) {
                return 0;
            }
            int ahead = 0;
            int s = next;
            while (!passing[s]) {
                for (Wagons other : trains) {
                    if (other.at == s) {
                        if (other.up != t.up) {
                            return 4;
                        }
                        ahead++;
                    }
                }
                s += way;
            }
            boolean end = s == 0 || s == last();
            return !end && ahead + here(s) >= 2 ? 5 : 0;
        }

        void turn(Wagons t) {
            t.reason = 0;
            if (t.rest > 0) {
                t.rest--;
                return;
            }
            t.reason = reason(t);
            if (t.reason != 0) {
                t.waits++;
                return;
            }
            if (t.up && t.at == last()) {
                delivered += t.peat;
                t.peat = 0;
                t.up = false;
                t.rest = t.wagons;
                t.unloads++;
            } else if (!t.up && t.at == 0) {
                t.peat = t.wagons * t.load;
                stock -= t.peat;
                t.up = true;
                t.rest = t.wagons;
            } else {
                t.at += t.up ? 1 : -1;
                t.rest = 1 + sinking[t.at] / 100;
            }
        }

        void tick() {
            List<Wagons> order = new ArrayList<>();
            if (settings[2] == 2) {
                order.addAll(trains);
            } else {
                boolean upFirst = settings[2] == 0;
                int ups = 0;
                for (Wagons t : trains) {
                    order.add(t.up == upFirst ? ups++ : order.size(), t);
                }
            }
            for (Wagons t : order) {
                turn(t);
            }
            for (int s = 0; s <= last(); s++) {
                if (here(s) == 0) {
                    sinking[s] -= settings[1];
                    if (sinking[s] < 0) {
                        sinking[s] = 0;
                    }
                } else {
                    sinking[s] += weight(s) * softness[s] / 10;
                    if (sinking[s] > 999) {
                        sinking[s] = 999;
                    }
                }
            }
            clock++;
        }

        int run(int ticks) {
            int before = delivered;
            for (int i = 0; i < ticks; i++) {
                tick();
            }
            return delivered - before;
        }

        int worst() {
            int worst = 0;
            for (int depth : sinking) {
                worst = Math.max(worst, depth);
            }
            return worst;
        }

        int waits() {
            return trains.stream().mapToInt(t -> t.waits).sum();
        }

        int aboard() {
            return trains.stream().mapToInt(t -> t.peat).sum();
        }
    }

    private World world = new World();
    private final List<World> history = new ArrayList<>();
    private final World[] images = new World[2];
    private String text = "";

    Model() {
        world.lay("0p,4,4,2p,4,4,0p");
    }

    private void change() {
        history.add(world.copy());
        if (history.size() > 8) {
            history.remove(0);
        }
    }

    private static boolean out(int value, int least, int most) {
        return value < least || value > most;
    }

    private boolean noTrain(int train) {
        return out(train, 0, world.trains.size() - 1);
    }

    int type(int code) {
        if (out(code, 32, 126)) {
            return -2;
        }
        if (text.length() == 40) {
            return -4;
        }
        text += (char) code;
        return text.length();
    }

    int clear() {
        int length = text.length();
        text = "";
        return length;
    }

    /** By the grammar: the longest beginning that some text without a fault could go on from. */
    int fault() {
        String segment = "[0-9]p?";
        if (text.matches(segment + "(," + segment + "){2,11}")) {
            return -1;
        }
        for (int i = 1; i <= text.length(); i++) {
            String begin = text.substring(0, i);
            if (!begin.matches("(" + segment + ",){0,11}(" + segment + ")?")) {
                return i - 1;
            }
        }
        return text.length();
    }

    int layTrack() {
        if (fault() != -1) {
            return -3;
        }
        change();
        world.lost += world.aboard();
        world.trains.clear();
        world.lay(text);
        text = "";
        return world.softness.length;
    }

    int set(int setting, int value) {
        int[][] bounds = {{10, 900}, {1, 50}, {0, 2}};
        if (out(setting, 0, 2) || out(value, bounds[setting][0], bounds[setting][1])) {
            return -2;
        }
        change();
        int before = world.settings[setting];
        world.settings[setting] = value;
        return before;
    }

    int dig(int amount) {
        if (out(amount, 1, 1000)) {
            return -2;
        }
        if (world.stock + amount > 5000) {
            return -4;
        }
        change();
        world.dug += amount;
        return world.stock += amount;
    }

    int addTrain(int wagons, int load) {
        if (out(wagons, 1, 6) || out(load, 1, 20)) {
            return -2;
        }
        if (world.trains.size() == 4) {
            return -4;
        }
        change();
        Wagons t = new Wagons();
        t.wagons = wagons;
        t.load = load;
        world.trains.add(t);
        return world.trains.size() - 1;
    }

    int dropTrain(int train) {
        if (noTrain(train)) {
            return -2;
        }
        change();
        int peat = world.trains.remove(train).peat;
        world.lost += peat;
        return peat;
    }

    int setLoad(int train, int load) {
        if (noTrain(train) || out(load, 1, 20)) {
            return -2;
        }
        change();
        int before = world.trains.get(train).load;
        world.trains.get(train).load = load;
        return before;
    }

    int run(int ticks) {
        if (out(ticks, 1, 200)) {
            return -2;
        }
        change();
        return world.run(ticks);
    }

    int undo() {
        if (history.isEmpty()) {
            return -3;
        }
        world = history.remove(history.size() - 1);
        return history.size();
    }

    int keep(int image) {
        if (out(image, 0, 1)) {
            return -2;
        }
        images[image] = world.copy();
        return world.clock;
    }

    int back(int image) {
        if (out(image, 0, 1)) {
            return -2;
        }
        if (images[image] == null) {
            return -3;
        }
        change();
        world = images[image].copy();
        return world.clock;
    }

    int segment(int s, int what) {
        if (out(s, 0, world.last()) || out(what, 0, 6)) {
            return -2;
        }
        int ticks = 0;
        for (int sinking = world.sinking[s]; sinking > world.settings[0];) {
            sinking -= world.settings[1];
            ticks++;
        }
        int[] all = {
            world.softness[s], world.passing[s] ? 1 : 0, world.sinking[s], world.here(s),
            world.weight(s), world.room(s) - world.here(s), ticks
        };
        return all[what];
    }

    int train(int train, int what) {
        if (noTrain(train) || out(what, 0, 9)) {
            return -2;
        }
        Wagons t = world.trains.get(train);
        int[] all = {
            t.wagons, t.load, t.peat, t.at, t.up ? 1 : 0, t.rest, t.reason, t.waits, t.unloads,
            t.weight()
        };
        return all[what];
    }

    int why(int train) {
        return noTrain(train) ? -2 : world.reason(world.trains.get(train));
    }

    int account(int what) {
        int[] all = {world.dug, world.stock, world.aboard(), world.delivered, world.lost};
        return out(what, 0, 4) ? -2 : all[what];
    }

    int count(int what) {
        if (out(what, 0, 7)) {
            return -2;
        }
        int sunk = 0;
        for (int s = 0; s <= world.last(); s++) {
            sunk += world.sinking[s] > world.settings[0] ? 1 << s : 0;
        }
        int kept = (images[0] == null ? 0 : 1) + (images[1] == null ? 0 : 2);
        int[] all = {
            world.softness.length, world.trains.size(), world.clock, world.worst(), world.waits(),
            history.size(), kept, sunk
        };
        return all[what];
    }

    int setting(int setting) {
        return out(setting, 0, 2) ? -2 : world.settings[setting];
    }

    int ifRun(int ticks, int what) {
        if (out(ticks, 1, 200) || out(what, 0, 3)) {
            return -2;
        }
        World then = world.copy();
        int worst = 0;
        for (int i = 0; i < ticks; i++) {
            then.tick();
            worst = Math.max(worst, then.worst());
        }
        int[] all = {
            then.delivered - world.delivered, then.worst(), then.waits() - world.waits(), worst
        };
        return all[what];
    }

    int ticksFor(int amount) {
        if (out(amount, 1, 1000)) {
            return -2;
        }
        World then = world.copy();
        for (int ticks = 1; ticks <= 500; ticks++) {
            then.tick();
            if (then.delivered >= world.delivered + amount) {
                return ticks;
            }
        }
        return -1;
    }

    int bestRule(int ticks) {
        if (out(ticks, 1, 200)) {
            return -2;
        }
        int[] sums = new int[3];
        for (int rule = 0; rule < 3; rule++) {
            World then = world.copy();
            then.settings[2] = rule;
            sums[rule] = then.run(ticks);
        }
        return firstOfTheMost(sums);
    }

    int bestLoad(int train, int ticks) {
        if (noTrain(train) || out(ticks, 1, 200)) {
            return -2;
        }
        int[] sums = new int[20];
        for (int load = 1; load <= 20; load++) {
            World then = world.copy();
            then.trains.get(train).load = load;
            sums[load - 1] = then.run(ticks);
        }
        return firstOfTheMost(sums) + 1;
    }

    private static int firstOfTheMost(int[] sums) {
        int most = Arrays.stream(sums).max().getAsInt();
        int i = 0;
        while (sums[i] != most) {
            i++;
        }
        return i;
    }

    double meanSinking() {
        return (double) Arrays.stream(world.sinking).sum() / world.sinking.length;
    }

    long digest() {
        List<Long> all = new ArrayList<>();
        for (int what = 0; what < 8; what++) {
            all.add((long) count(what));
        }
        for (int setting : world.settings) {
            all.add((long) setting);
        }
        for (int what = 0; what < 5; what++) {
            all.add((long) account(what));
        }
        for (int s = 0; s <= world.last(); s++) {
            for (int what = 0; what < 7; what++) {
                all.add((long) segment(s, what));
            }
        }
        for (int t = 0; t < world.trains.size(); t++) {
            for (int what = 0; what < 10; what++) {
                all.add((long) train(t, what));
            }
            all.add((long) why(t));
        }
        for (int what = 0; what < 4; what++) {
            all.add((long) ifRun(50, what));
        }
        all.add(Double.doubleToLongBits(meanSinking()));
        all.add((long) text.length());
        text.chars().forEach(c -> all.add((long) c));
        long hash = 2069;
        for (long x : all) {
            hash = 31 * hash + x;
        }
        return hash;
    }
}
