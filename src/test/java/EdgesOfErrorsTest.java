import java.util.List;
import java.util.function.Supplier;

/** "Errors." of the description: the ends of all ranges, the order, and that nothing changes. */
public final class EdgesOfErrorsTest {
    private static final int BAD = PeatRailway.BAD, STATE = PeatRailway.STATE,
            FULL = PeatRailway.FULL, NONE = PeatRailway.NONE;
    private static final int LEAST = Integer.MIN_VALUE, MOST = Integer.MAX_VALUE;

    private interface One {
        long on(PeatRailway x, int a);
    }

    private interface Two {
        long on(PeatRailway x, int a, int b);
    }

    private record Kind(String name, Supplier<PeatRailway> maker, int segments, int trains) { }

    private static final List<Kind> KINDS = List.of(
            new Kind("a new one", PeatRailway::new, 7, 0),
            new Kind("some", Scene::some, 5, 2),
            new Kind("full", Scene::full, 5, 4));

    public static void main(String[] args) {
        for (Kind kind : KINDS) {
            badChanges(kind);
            badImages(kind);
            badQuestions(kind);
            badForecasts(kind);
        }
        badSettings();
        endsOfTheRanges();
        stateWithoutAText();
        stateWithoutAHistory();
        stateWithoutAnImage();
        fullText();
        fullStock();
        fullOfTrains();
        badComesBeforeState();
        badComesBeforeFull();
        noneOnlyWithoutAnError();
        Due.end();
    }

    // ---- "BAD: an argument is out of range, or names something that does not exist."

    private static void badChanges(Kind kind) {
        one(2, "type", kind, 32, 126, (x, a) -> x.type(a));
        one(7, "dig", kind, 1, 1000, (x, a) -> x.dig(a));
        two(8, "addTrain", kind, new int[] {1, 6, 1, 20}, (x, a, b) -> x.addTrain(a, b));
        one(9, "dropTrain", kind, 0, kind.trains - 1, (x, a) -> x.dropTrain(a));
        two(10, "setLoad", kind, new int[] {0, kind.trains - 1, 1, 20},
                (x, a, b) -> x.setLoad(a, b));
        one(11, "run", kind, 1, 200, (x, a) -> x.run(a));
    }

    private static void badImages(Kind kind) {
        one(13, "keep", kind, 0, 1, (x, a) -> x.keep(a));
        one(14, "back", kind, 0, 1, (x, a) -> x.back(a));
    }

    private static void badQuestions(Kind kind) {
        two(15, "segment", kind, new int[] {0, kind.segments - 1, 0, 6},
                (x, a, b) -> x.segment(a, b));
        two(16, "train", kind, new int[] {0, kind.trains - 1, 0, 9}, (x, a, b) -> x.train(a, b));
        one(17, "why", kind, 0, kind.trains - 1, (x, a) -> x.why(a));
        one(18, "account", kind, 0, 4, (x, a) -> x.account(a));
        one(19, "count", kind, 0, 7, (x, a) -> x.count(a));
        one(20, "setting", kind, 0, 2, (x, a) -> x.setting(a));
    }

    private static void badForecasts(Kind kind) {
        two(21, "ifRun", kind, new int[] {1, 200, 0, 3}, (x, a, b) -> x.ifRun(a, b));
        one(22, "ticksFor", kind, 1, 1000, (x, a) -> x.ticksFor(a));
        one(23, "bestRule", kind, 1, 200, (x, a) -> x.bestRule(a));
        two(24, "bestLoad", kind, new int[] {0, kind.trains - 1, 1, 200},
                (x, a, b) -> x.bestLoad(a, b));
    }

    /** The range of a value depends on its setting. */
    private static void badSettings() {
        int[][] ranges = {{10, 900}, {1, 50}, {0, 2}};
        for (Kind kind : KINDS) {
            for (int s = 0; s < 3; s++) {
                int setting = s;
                one(6, "set(" + s + ", ..)", kind, ranges[s][0], ranges[s][1],
                        (x, a) -> x.set(setting, a));
            }
            for (int value : new int[] {-1, 0, 1, 2, 10, 50, 51, 900, 901, LEAST, MOST}) {
                one(6, "set(.., " + value + ")", kind, 0, 2, (x, a) -> x.set(a, value));
            }
        }
    }

    private static void one(int promise, String name, Kind kind, int least, int most, One call) {
        for (int wrong : beyond(least, most)) {
            Twin.unchanged(promise, name + "(" + wrong + ") of " + kind.name, kind.maker,
                    x -> call.on(x, wrong), BAD);
        }
    }

    /** Either argument is wrong, or both are; the other one is at an end of its range. */
    private static void two(int promise, String name, Kind kind, int[] range, Two call) {
        for (int a : beyond(range[0], range[1])) {
            for (int b : new int[] {range[2], range[3], range[2] - 1, range[3] + 1, LEAST, MOST}) {
                both(promise, name, kind, a, b, call);
            }
        }
        for (int a = range[0]; a <= range[1]; a++) {
            for (int b : beyond(range[2], range[3])) {
                both(promise, name, kind, a, b, call);
            }
        }
    }

    private static void both(int promise, String name, Kind kind, int a, int b, Two call) {
        Twin.unchanged(promise, name + "(" + a + ", " + b + ") of " + kind.name, kind.maker,
                x -> call.on(x, a, b), BAD);
    }

    /** The last two of them would be in the range if they were cut to bytes or chars. */
    private static int[] beyond(int least, int most) {
        return new int[] {least - 1, most + 1, LEAST, MOST, least + 65536 * 16, least - 65536 * 16};
    }

    /** What is just in the range is no error. */
    private static void endsOfTheRanges() {
        int[] ends = {
            Scene.some().type(32), Scene.some().type(126), Scene.some().set(0, 10),
            Scene.some().set(0, 900), Scene.some().set(1, 1), Scene.some().set(1, 50),
            Scene.some().set(2, 0), Scene.some().set(2, 2), Scene.some().dig(1),
            Scene.some().dig(1000), Scene.some().addTrain(1, 1), Scene.some().addTrain(6, 20),
            Scene.some().dropTrain(0), Scene.some().dropTrain(1), Scene.some().setLoad(0, 1),
            Scene.some().setLoad(1, 20), Scene.some().run(1), Scene.some().run(200),
            Scene.some().keep(0), Scene.some().keep(1), Scene.some().back(1),
            Scene.full().back(0), Scene.some().segment(0, 0), Scene.some().segment(4, 6),
            Scene.some().train(0, 0), Scene.some().train(1, 9), Scene.some().why(0),
            Scene.some().why(1), Scene.some().account(0), Scene.some().account(4),
            Scene.some().count(0), Scene.some().count(7), Scene.some().setting(0),
            Scene.some().setting(2), Scene.some().ifRun(1, 0), Scene.some().ifRun(200, 3),
            Scene.some().ticksFor(1), Scene.some().bestRule(1), Scene.some().bestRule(200),
            Scene.some().bestLoad(0, 1), Scene.some().bestLoad(1, 200)
        };
        for (int i = 0; i < ends.length; i++) {
            Due.holds(2, "the end " + i + " of a range is in it: " + ends[i], ends[i] >= 0);
        }
        Due.holds(22, "ticksFor(1000) is no error", Scene.some().ticksFor(1000) >= NONE);
    }

    // ---- "STATE: the call is not possible at present, as described."

    private static void stateWithoutAText() {
        for (Kind kind : KINDS) {
            for (String text : new String[] {"", "1", "1,2", "1,2,", "1,2,3,", "1,2,3x"}) {
                Supplier<PeatRailway> maker = () -> {
                    PeatRailway x = kind.maker.get();
                    x.clear();
                    Due.type(x, text);
                    return x;
                };
                Twin.unchanged(5, "layTrack() of \"" + text + "\" on " + kind.name, maker,
                        x -> x.layTrack(), STATE);
            }
        }
        Twin.unchanged(5, "layTrack() of 40 signs", Scene::full, x -> x.layTrack(), STATE);
    }

    private static void stateWithoutAHistory() {
        Twin.unchanged(12, "undo() of a new one", PeatRailway::new, x -> x.undo(), STATE);
        Supplier<PeatRailway> undone = () -> {
            PeatRailway x = Scene.full();
            for (int i = 0; i < 8; i++) {
                x.undo();
            }
            return x;
        };
        Twin.unchanged(12, "undo() of all undone", undone, x -> x.undo(), STATE);
    }

    private static void stateWithoutAnImage() {
        Twin.unchanged(14, "back(0) of a new one", PeatRailway::new, x -> x.back(0), STATE);
        Twin.unchanged(14, "back(1) of a new one", PeatRailway::new, x -> x.back(1), STATE);
        Twin.unchanged(14, "back(0), 1 is kept", Scene::some, x -> x.back(0), STATE);
        Supplier<PeatRailway> first = () -> {
            PeatRailway x = new PeatRailway();
            x.dig(3);
            x.keep(0);
            return x;
        };
        Twin.unchanged(14, "back(1), 0 is kept", first, x -> x.back(1), STATE);
    }

    // ---- "FULL: a limit would be exceeded."

    private static void fullText() {
        for (int code = 32; code <= 126; code++) {
            int sign = code;
            Twin.unchanged(2, "type(" + code + ") to 40 signs", Scene::full, x -> x.type(sign),
                    FULL);
        }
        PeatRailway x = new PeatRailway();
        Due.type(x, "?".repeat(39));
        Due.same(2, "type to 39 signs", x.type('?'), 40);
        Due.same(2, "type to 40 signs", x.type('?'), FULL);
    }

    private static void fullStock() {
        for (int amount : new int[] {1, 2, 999, 1000}) {
            Twin.unchanged(7, "dig(" + amount + ") to 5000", Scene::full, x -> x.dig(amount), FULL);
            int below = 5000 - amount;
            Supplier<PeatRailway> justBelow = () -> withStock(below);
            Supplier<PeatRailway> oneMore = () -> withStock(below + 1);
            Due.same(7, "dig(" + amount + ") to " + below, justBelow.get().dig(amount), 5000);
            Twin.unchanged(7, "dig(" + amount + ") to " + (below + 1), oneMore, x -> x.dig(amount),
                    FULL);
        }
    }

    private static PeatRailway withStock(int stock) {
        PeatRailway x = new PeatRailway();
        while (x.account(1) < stock) {
            x.dig(Math.min(stock - x.account(1), 1000));
        }
        return x;
    }

    private static void fullOfTrains() {
        for (int wagons = 1; wagons <= 6; wagons++) {
            for (int load : new int[] {1, 20}) {
                int some = wagons;
                Twin.unchanged(8, "addTrain(" + wagons + ", " + load + ") to 4", Scene::full,
                        x -> x.addTrain(some, load), FULL);
            }
        }
        PeatRailway x = new PeatRailway();
        for (int train = 0; train < 4; train++) {
            Due.same(8, "addTrain to " + train, x.addTrain(1, 1), train);
        }
        Due.same(8, "addTrain to 4", x.addTrain(1, 1), FULL);
        x.dropTrain(2);
        Due.same(8, "addTrain to 3 again", x.addTrain(1, 1), 3);
        Due.same(8, "addTrain to 4 again", x.addTrain(1, 1), FULL);
    }

    // ---- "If several of them apply to a call, the first one in this order is returned."

    private static void badComesBeforeState() {
        PeatRailway x = new PeatRailway();
        Due.same(14, "back(2), nothing is kept", x.back(2), BAD);
        Due.same(14, "back(-1), nothing is kept", x.back(-1), BAD);
    }

    private static void badComesBeforeFull() {
        PeatRailway x = Scene.full();
        Due.same(2, "type(31) to 40 signs", x.type(31), BAD);
        Due.same(2, "type(127) to 40 signs", x.type(127), BAD);
        Due.same(7, "dig(0) to 5000", x.dig(0), BAD);
        Due.same(7, "dig(1001) to 5000", x.dig(1001), BAD);
        Due.same(8, "addTrain(0, 1) to 4", x.addTrain(0, 1), BAD);
        Due.same(8, "addTrain(7, 20) to 4", x.addTrain(7, 20), BAD);
        Due.same(8, "addTrain(1, 0) to 4", x.addTrain(1, 0), BAD);
        Due.same(8, "addTrain(6, 21) to 4", x.addTrain(6, 21), BAD);
    }

    // ---- "NONE means that there is no such thing; it is returned only if no error applies."

    private static void noneOnlyWithoutAnError() {
        PeatRailway x = new PeatRailway();
        Due.same(22, "ticksFor(0), nothing will be delivered", x.ticksFor(0), BAD);
        Due.same(22, "ticksFor(1001), nothing will be delivered", x.ticksFor(1001), BAD);
        Due.same(22, "ticksFor(1), nothing will be delivered", x.ticksFor(1), NONE);
        Due.same(22, "ticksFor(1000), nothing will be delivered", x.ticksFor(1000), NONE);
    }
}
