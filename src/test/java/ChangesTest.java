/** Promises 6 to 11: settings, digging, trains and runs, with their errors. */
public final class ChangesTest {
    private static final int BAD = PeatRailway.BAD, FULL = PeatRailway.FULL;
    private static final int LEAST = Integer.MIN_VALUE, MOST = Integer.MAX_VALUE;

    public static void main(String[] args) {
        set();
        dig();
        addTrain();
        dropTrain();
        setLoad();
        runErrors();
        runIsOneChange();
        Due.end();
    }

    private static void set() {
        PeatRailway x = new PeatRailway();
        int[][] wrong = {
            {-1, 10}, {3, 10}, {LEAST, 1}, {MOST, 1}, {0, 9}, {0, 901}, {0, LEAST}, {0, MOST},
            {1, 0}, {1, 51}, {1, -1}, {2, -1}, {2, 3}
        };
        long before = x.digest();
        for (int[] w : wrong) {
            Due.same(6, "set(" + w[0] + ", " + w[1] + ")", x.set(w[0], w[1]), BAD);
        }
        Due.same(6, "digest behind errors", x.digest(), before);
        int[][] right = {
            {0, 10, 300}, {0, 900, 10}, {1, 1, 5}, {1, 50, 1}, {2, 1, 0}, {2, 2, 1}, {2, 0, 2}
        };
        for (int i = 0; i < right.length; i++) {
            int[] r = right[i];
            Due.same(6, "set(" + r[0] + ", " + r[1] + ")", x.set(r[0], r[1]), r[2]);
            Due.same(6, "setting(" + r[0] + ")", x.setting(r[0]), r[1]);
            Due.same(6, "set is a change", x.count(5), i + 1);
        }
        Due.same(6, "set to the same value", x.set(2, 0), 0);
        Due.same(6, "set to the same value is a change", x.count(5), 8);
        Due.same(6, "undo()", x.undo(), 7);
        Due.same(6, "undo()", x.undo(), 6);
        Due.same(6, "setting(2) behind undo", x.setting(2), 2);
    }

    private static void dig() {
        PeatRailway x = new PeatRailway();
        long before = x.digest();
        Due.same(7, "dig(0)", x.dig(0), BAD);
        Due.same(7, "dig(-1)", x.dig(-1), BAD);
        Due.same(7, "dig(1001)", x.dig(1001), BAD);
        Due.same(7, "dig(most)", x.dig(MOST), BAD);
        Due.same(7, "dig(least)", x.dig(LEAST), BAD);
        Due.same(7, "digest behind errors", x.digest(), before);
        Due.same(7, "dig(1)", x.dig(1), 1);
        Due.same(7, "dig(1000)", x.dig(1000), 1001);
        Due.same(7, "dig is a change", x.count(5), 2);
        Due.same(7, "dug", x.account(0), 1001);
        Due.same(7, "stock", x.account(1), 1001);
        Due.same(7, "dig(1000)", x.dig(1000), 2001);
        Due.same(7, "dig(1000)", x.dig(1000), 3001);
        Due.same(7, "dig(1000)", x.dig(1000), 4001);
        before = x.digest();
        Due.same(7, "dig(1000) beyond the limit", x.dig(1000), FULL);
        Due.same(7, "dig(1001) beyond the limit", x.dig(1001), BAD);
        Due.same(7, "digest behind errors", x.digest(), before);
        Due.same(7, "dig(999)", x.dig(999), 5000);
        Due.same(7, "dig(1)", x.dig(1), FULL);
        x.addTrain(1, 20);
        x.run(1);
        Due.same(7, "stock behind a loading", x.account(1), 4980);
        Due.same(7, "dig(21) behind a loading", x.dig(21), FULL);
        Due.same(7, "dig(20) behind a loading", x.dig(20), 5000);
        Due.same(7, "dug", x.account(0), 5020);
    }

    private static void addTrain() {
        PeatRailway x = new PeatRailway();
        int[][] wrong = {
            {0, 1}, {7, 1}, {-1, 1}, {1, 0}, {1, 21}, {1, -1}, {LEAST, 1}, {MOST, 1}, {1, LEAST},
            {1, MOST}, {0, 0}, {7, 21}
        };
        long before = x.digest();
        for (int[] w : wrong) {
            Due.same(8, "addTrain(" + w[0] + ", " + w[1] + ")", x.addTrain(w[0], w[1]), BAD);
        }
        Due.same(8, "digest behind errors", x.digest(), before);
        Due.same(8, "addTrain(1, 1)", x.addTrain(1, 1), 0);
        Due.same(8, "addTrain(6, 20)", x.addTrain(6, 20), 1);
        x.run(3);
        Due.same(8, "waits of an earlier train", x.train(1, 7), 3);
        Due.same(8, "addTrain(3, 7)", x.addTrain(3, 7), 2);
        Due.same(8, "addTrain is a change", x.count(5), 4);
        int[] due = {3, 7, 0, 0, 0, 0, 0, 0, 0, 10};
        for (int what = 0; what < due.length; what++) {
            Due.same(8, "train(2, " + what + ")", x.train(2, what), due[what]);
        }
        Due.same(8, "addTrain(4, 2)", x.addTrain(4, 2), 3);
        Due.same(8, "trains", x.count(1), 4);
        before = x.digest();
        Due.same(8, "addTrain(1, 1) to 4", x.addTrain(1, 1), FULL);
        for (int[] w : wrong) {
            Due.same(8, "addTrain(" + w[0] + ", " + w[1] + ") to 4", x.addTrain(w[0], w[1]), BAD);
        }
        Due.same(8, "digest behind errors", x.digest(), before);
        Due.same(8, "undo()", x.undo(), 4);
        Due.same(8, "trains behind undo", x.count(1), 3);
        Due.same(8, "train(3, 0) behind undo", x.train(3, 0), BAD);
        Due.same(8, "addTrain(5, 9)", x.addTrain(5, 9), 3);
        Due.same(8, "train(3, 0)", x.train(3, 0), 5);
        addTrainInThePlaceOfAnother();
    }

    /** A new train has nothing of one that had its number before. */
    private static void addTrainInThePlaceOfAnother() {
        int[] ticks = {1, 2, 9, 13, 15, 16, 30};
        for (int some : ticks) {
            for (int way = 0; way < 3; way++) {
                PeatRailway x = new PeatRailway();
                x.addTrain(2, 20);
                x.run(3);
                x.dig(41);
                x.run(some);
                if (way == 0) {
                    x.dropTrain(0);
                } else if (way == 1) {
                    Due.type(x, "1,2,3,4");
                    x.layTrack();
                } else {
                    x.keep(0);
                    x.dropTrain(0);
                    x.run(1);
                }
                Due.same(8, "addTrain(3, 7)", x.addTrain(3, 7), 0);
                int[] due = {3, 7, 0, 0, 0, 0, 0, 0, 0, 10};
                for (int what = 0; what < due.length; what++) {
                    Due.same(8, "train(0, " + what + ") of a new one", x.train(0, what),
                            due[what]);
                }
            }
        }
    }

    private static void dropTrain() {
        PeatRailway x = new PeatRailway();
        long before = x.digest();
        Due.same(9, "dropTrain(0) of none", x.dropTrain(0), BAD);
        Due.same(9, "dropTrain(-1)", x.dropTrain(-1), BAD);
        Due.same(9, "digest behind errors", x.digest(), before);
        x.dig(1000);
        x.addTrain(1, 11);
        x.addTrain(2, 12);
        x.addTrain(3, 13);
        x.addTrain(4, 20);
        x.run(10);
        int[][] trains = new int[4][10];
        for (int t = 0; t < 4; t++) {
            for (int what = 0; what < 10; what++) {
                trains[t][what] = x.train(t, what);
            }
        }
        before = x.digest();
        Due.same(9, "dropTrain(4)", x.dropTrain(4), BAD);
        Due.same(9, "dropTrain(least)", x.dropTrain(LEAST), BAD);
        Due.same(9, "dropTrain(most)", x.dropTrain(MOST), BAD);
        Due.same(9, "digest behind errors", x.digest(), before);
        Due.same(9, "dropTrain(1)", x.dropTrain(1), 24);
        Due.same(9, "dropTrain is a change", x.count(5), 7);
        Due.same(9, "lost", x.account(4), 24);
        Due.same(9, "trains", x.count(1), 3);
        int[] stays = {0, 2, 3};
        for (int t = 0; t < 3; t++) {
            for (int what = 0; what < 10; what++) {
                Due.same(9, "train(" + t + ", " + what + ")", x.train(t, what),
                        trains[stays[t]][what]);
            }
        }
        Due.same(9, "train(3, 0)", x.train(3, 0), BAD);
        Due.same(9, "dropTrain(2), the last one", x.dropTrain(2), 80);
        Due.same(9, "lost", x.account(4), 104);
        Due.same(9, "train(1, 0)", x.train(1, 0), 3);
        Due.same(9, "undo()", x.undo(), 7);
        Due.same(9, "train(2, 0) behind undo", x.train(2, 0), 4);
        Due.same(9, "lost behind undo", x.account(4), 24);
        Due.same(9, "undo()", x.undo(), 6);
        Due.same(9, "digest behind undo", x.account(4), 0);
        for (int t = 0; t < 4; t++) {
            for (int what = 0; what < 10; what++) {
                Due.same(9, "train(" + t + ", " + what + ") behind undo", x.train(t, what),
                        trains[t][what]);
            }
        }
        PeatRailway y = new PeatRailway();
        y.addTrain(6, 20);
        Due.same(9, "dropTrain(0) of an empty one", y.dropTrain(0), 0);
        Due.same(9, "trains", y.count(1), 0);
    }

    private static void setLoad() {
        PeatRailway x = new PeatRailway();
        Due.same(10, "setLoad(0, 1) of none", x.setLoad(0, 1), BAD);
        x.dig(100);
        x.addTrain(2, 5);
        long before = x.digest();
        int[][] wrong = {{-1, 1}, {1, 1}, {0, 0}, {0, 21}, {0, -1}, {0, MOST}, {LEAST, 1}};
        for (int[] w : wrong) {
            Due.same(10, "setLoad(" + w[0] + ", " + w[1] + ")", x.setLoad(w[0], w[1]), BAD);
        }
        Due.same(10, "digest behind errors", x.digest(), before);
        x.run(1);
        Due.same(10, "peat", x.train(0, 2), 10);
        Due.same(10, "setLoad(0, 20)", x.setLoad(0, 20), 5);
        Due.same(10, "setLoad is a change", x.count(5), 4);
        Due.same(10, "load", x.train(0, 1), 20);
        Due.same(10, "peat stays", x.train(0, 2), 10);
        Due.same(10, "weight stays", x.train(0, 9), 18);
        Due.same(10, "setLoad(0, 1)", x.setLoad(0, 1), 20);
        Due.same(10, "setLoad(0, 20)", x.setLoad(0, 20), 1);
        Due.same(10, "run(38)", x.run(38), 10);
        Due.same(10, "peat of the next loading", x.train(0, 2), 40);
        Due.same(10, "undo()", x.undo(), 6);
        Due.same(10, "undo()", x.undo(), 5);
        Due.same(10, "load behind undo", x.train(0, 1), 1);
    }

    private static void runErrors() {
        PeatRailway x = new PeatRailway();
        x.dig(100);
        x.addTrain(2, 5);
        long before = x.digest();
        Due.same(11, "run(0)", x.run(0), BAD);
        Due.same(11, "run(-1)", x.run(-1), BAD);
        Due.same(11, "run(201)", x.run(201), BAD);
        Due.same(11, "run(least)", x.run(LEAST), BAD);
        Due.same(11, "run(most)", x.run(MOST), BAD);
        Due.same(11, "digest behind errors", x.digest(), before);
    }

    private static void runIsOneChange() {
        PeatRailway x = new PeatRailway();
        x.dig(100);
        x.addTrain(2, 5);
        PeatRailway y = new PeatRailway();
        y.dig(100);
        y.addTrain(2, 5);
        int sum = 0;
        for (int i = 0; i < 200; i++) {
            sum += y.run(1);
        }
        Due.same(11, "run(200)", x.run(200), sum);
        Due.holds(11, "something is delivered", sum > 0);
        Due.same(11, "run is one change", x.count(5), 3);
        Due.same(11, "clock", x.count(2), 200);
        Due.same(11, "run(1)", x.run(1), y.run(1));
        Due.same(11, "delivered", x.account(3), y.account(3));
        for (int what = 0; what < 10; what++) {
            Due.same(11, "train(0, " + what + ")", x.train(0, what), y.train(0, what));
        }
        for (int s = 0; s < 7; s++) {
            Due.same(11, "segment(" + s + ", 2)", x.segment(s, 2), y.segment(s, 2));
        }
        x.undo();
        Due.same(11, "undo()", x.undo(), 2);
        Due.same(11, "clock behind undo", x.count(2), 0);
        Due.same(11, "account(3) behind undo", x.account(3), 0);
    }
}
