/** Promises 15 to 20: segments, trains, accounts, counts and settings (why is in TickTest). */
public final class ToldTest {
    private static final int BAD = PeatRailway.BAD;
    private static final int LEAST = Integer.MIN_VALUE, MOST = Integer.MAX_VALUE;

    public static void main(String[] args) {
        errors();
        segment();
        ticksToRise();
        train();
        account();
        accountsAddUp();
        count();
        setting();
        Due.end();
    }

    private static void errors() {
        PeatRailway x = Due.withTrack("1,2,3");
        x.addTrain(1, 1);
        int[] wrong = {-1, LEAST, MOST, 12, 13, 100};
        for (int w : wrong) {
            Due.same(15, "segment(" + w + ", 0)", x.segment(w, 0), BAD);
            Due.same(15, "segment(0, " + w + ")", x.segment(0, w), BAD);
            Due.same(16, "train(" + w + ", 0)", x.train(w, 0), BAD);
            Due.same(16, "train(0, " + w + ")", x.train(0, w), BAD);
            Due.same(17, "why(" + w + ")", x.why(w), BAD);
            Due.same(18, "account(" + w + ")", x.account(w), BAD);
            Due.same(19, "count(" + w + ")", x.count(w), BAD);
            Due.same(20, "setting(" + w + ")", x.setting(w), BAD);
        }
        for (int what = 0; what < 10; what++) {
            Due.same(15, "segment(3, " + what + ")", x.segment(3, what), BAD);
            Due.same(16, "train(1, " + what + ")", x.train(1, what), BAD);
        }
        Due.same(15, "segment(0, 7)", x.segment(0, 7), BAD);
        Due.same(15, "segment(2, 0)", x.segment(2, 0), 3);
        Due.same(16, "train(0, 10)", x.train(0, 10), BAD);
        Due.same(17, "why(1)", x.why(1), BAD);
        Due.same(18, "account(5)", x.account(5), BAD);
        Due.same(19, "count(8)", x.count(8), BAD);
        Due.same(20, "setting(3)", x.setting(3), BAD);
    }

    /** Trains of the weights 26, 14 and 6 + 4; the last one stays at the bog. */
    private static void segment() {
        PeatRailway x = Due.withTrack("7,3p,9,0p,5");
        x.dig(26);
        x.addTrain(1, 20);
        x.addTrain(2, 3);
        x.addTrain(3, 20);
        x.run(4);
        int[][] due = {
            {7, 1, 0, 1, 10, 3, 0}, {3, 1, 0, 2, 40, 0, 0}, {9, 0, 0, 0, 0, 1, 0},
            {0, 1, 0, 0, 0, 2, 0}, {5, 1, 0, 0, 0, 4, 0}
        };
        // Bog: 26 + 14 + 10 = 50, * 7 / 10 = 35, twice; then 24 * 7 / 10 = 16; 10 * 7 / 10 = 7.
        due[0][2] = 93;
        // Segment 1: 26 * 3 / 10 = 7; then 40 * 3 / 10 = 12.
        due[1][2] = 19;
        for (int s = 0; s < 5; s++) {
            for (int what = 0; what < 7; what++) {
                Due.same(15, "segment(" + s + ", " + what + ")", x.segment(s, what), due[s][what]);
            }
        }
        x.addTrain(1, 1);
        Due.same(15, "room at the bog", x.segment(0, 5), 2);
        Due.same(15, "trains at the bog", x.segment(0, 3), 2);
        Due.same(15, "weight at the bog", x.segment(0, 4), 16);
        x.dropTrain(0);
        Due.same(15, "room in the passing place", x.segment(1, 5), 1);
        Due.same(15, "trains in the passing place", x.segment(1, 3), 1);
        Due.same(15, "weight in the passing place", x.segment(1, 4), 14);
        x.dropTrain(0);
        Due.same(15, "room in the passing place", x.segment(1, 5), 2);
        PeatRailway y = Due.withTrack("0,0,0");
        y.dig(1);
        y.addTrain(1, 1);
        y.run(3);
        Due.same(15, "room in a full segment", y.segment(1, 5), 0);
        Due.same(15, "trains in a full segment", y.segment(1, 3), 1);
    }

    private static void ticksToRise() {
        PeatRailway x = Due.withTrack("9,0,0");
        x.addTrain(6, 20);
        x.run(20);
        Due.same(15, "segment(0, 2)", x.segment(0, 2), 280);
        int[][] due = {
            {300, 5, 0}, {281, 5, 0}, {280, 5, 0}, {279, 5, 1}, {275, 5, 1}, {274, 5, 2},
            {10, 50, 6}, {30, 50, 5}, {29, 50, 6}, {31, 50, 5}, {10, 1, 270}, {279, 50, 1},
            {230, 50, 1}, {229, 50, 2}, {100, 7, 26}, {98, 7, 26}, {97, 7, 27}
        };
        for (int[] d : due) {
            x.set(0, d[0]);
            x.set(1, d[1]);
            Due.same(15, "segment(0, 6) at limit " + d[0] + ", recovery " + d[1],
                    x.segment(0, 6), d[2]);
            x.keep(0);
            x.dropTrain(0);
            for (int i = 0; i < d[2]; i++) {
                Due.holds(15, "above the limit before", (x.count(7) & 1) == 1);
                x.run(1);
            }
            Due.holds(15, "not above the limit then", (x.count(7) & 1) == 0);
            x.back(0);
            if (x.count(5) != 8) {
                Due.holds(14, "the history is full", d[0] == 300);
            }
        }
    }

    private static void train() {
        PeatRailway x = Due.withTrack("0,0,0");
        x.addTrain(5, 20);
        x.addTrain(1, 3);
        x.dig(9);
        int[] due = {1, 3, 0, 0, 0, 0, 0, 0, 0, 6};
        trainIs(x, 1, due);
        x.run(1);
        trainIs(x, 1, 1, 3, 3, 0, 1, 1, 0, 0, 0, 9);
        trainIs(x, 0, 5, 20, 0, 0, 0, 0, 1, 1, 0, 14);
        x.run(4);
        trainIs(x, 1, 1, 3, 3, 2, 1, 1, 0, 0, 0, 9);
        x.run(2);
        trainIs(x, 1, 1, 3, 0, 2, 0, 1, 0, 0, 1, 6);
        x.run(7);
        trainIs(x, 1, 1, 3, 3, 0, 1, 0, 0, 0, 1, 9);
        x.run(6);
        trainIs(x, 1, 1, 3, 0, 2, 0, 0, 0, 0, 2, 6);
        trainIs(x, 0, 5, 20, 0, 0, 0, 0, 1, 20, 0, 14);
        x.dig(100);
        trainIs(x, 0, 5, 20, 0, 0, 0, 0, 1, 20, 0, 14);
        x.run(1);
        trainIs(x, 0, 5, 20, 100, 0, 1, 5, 0, 20, 0, 114);
    }

    private static void trainIs(PeatRailway x, int train, int... due) {
        for (int what = 0; what < 10; what++) {
            Due.same(16, "at " + x.count(2) + " train(" + train + ", " + what + ")",
                    x.train(train, what), due[what]);
        }
    }

    private static void account() {
        PeatRailway x = Due.withTrack("0,0,0");
        x.dig(50);
        x.dig(7);
        x.addTrain(1, 20);
        x.addTrain(1, 6);
        accountIs(x, 57, 57, 0, 0, 0);
        x.run(1);
        accountIs(x, 57, 31, 26, 0, 0);
        x.run(6);
        accountIs(x, 57, 31, 6, 20, 0);
        x.dropTrain(1);
        accountIs(x, 57, 31, 0, 20, 6);
        x.run(7);
        accountIs(x, 57, 11, 20, 20, 6);
        Due.type(x, "0,0,0");
        x.layTrack();
        accountIs(x, 57, 11, 0, 20, 26);
        x.undo();
        accountIs(x, 57, 11, 20, 20, 6);
    }

    private static void accountIs(PeatRailway x, int... due) {
        for (int what = 0; what < 5; what++) {
            Due.same(18, "at " + x.count(2) + " account(" + what + ")", x.account(what),
                    due[what]);
        }
    }

    private static void accountsAddUp() {
        PeatRailway x = new PeatRailway();
        for (int i = 0; i < 40; i++) {
            x.dig(40);
            x.addTrain(1 + i % 6, 1 + i % 20);
            x.run(17);
            if (i % 3 == 0) {
                x.dropTrain(i % 4);
            }
            int sum = 0;
            for (int what = 1; what < 5; what++) {
                sum += x.account(what);
            }
            Due.same(18, "what was dug is the sum", x.account(0), sum);
        }
        Due.holds(18, "all accounts are above 0", x.account(1) > 0 && x.account(2) > 0
                && x.account(3) > 0 && x.account(4) > 0);
    }

    private static void count() {
        PeatRailway x = Due.withTrack("9,9,9");
        Due.same(19, "count(0)", x.count(0), 3);
        Due.same(19, "count(1)", x.count(1), 0);
        x.addTrain(6, 20);
        x.addTrain(3, 20);
        Due.same(19, "count(1)", x.count(1), 2);
        x.run(4);
        Due.same(19, "count(2)", x.count(2), 4);
        // (16 + 10) * 9 / 10 = 23
        Due.same(19, "count(3)", x.count(3), 92);
        Due.same(19, "count(4)", x.count(4), 8);
        Due.same(19, "count(5)", x.count(5), 4);
        Due.same(19, "count(6)", x.count(6), 0);
        Due.same(19, "count(7)", x.count(7), 0);
        x.set(0, 92);
        Due.same(19, "count(7) at the limit itself", x.count(7), 0);
        x.set(0, 91);
        Due.same(19, "count(7) above the limit", x.count(7), 1);
        x.dropTrain(0);
        Due.same(19, "count(4) behind dropTrain", x.count(4), 4);
        x.keep(1);
        Due.same(19, "count(6)", x.count(6), 2);
        countOfTheEnds();
    }

    private static void countOfTheEnds() {
        PeatRailway x = Due.withTrack("0,9,9,9,9,9,9,9,9,9,9,9");
        Due.same(19, "count(0)", x.count(0), 12);
        x.set(0, 900);
        x.set(1, 1);
        x.dig(20);
        x.addTrain(1, 20);
        x.run(24);
        Due.same(19, "the train is at the works", x.train(0, 3), 11);
        x.set(0, 10);
        Due.same(19, "count(7)", x.count(7), 0b111111111110);
        Due.same(19, "count(3)", x.count(3), x.segment(11, 2));
        x.undo();
        x.set(1, 50);
        x.run(1);
        x.set(0, 10);
        Due.same(19, "count(7)", x.count(7), 0b100000000000);
    }

    private static void setting() {
        PeatRailway x = new PeatRailway();
        int[] due = {300, 5, 0};
        for (int i = 0; i < 3; i++) {
            Due.same(20, "setting(" + i + ")", x.setting(i), due[i]);
        }
        x.set(0, 17);
        x.set(1, 27);
        x.set(2, 2);
        int[] then = {17, 27, 2};
        for (int i = 0; i < 3; i++) {
            Due.same(20, "setting(" + i + ")", x.setting(i), then[i]);
        }
    }
}
