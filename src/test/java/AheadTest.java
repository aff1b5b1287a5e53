/**
 * Promises 21 to 24: what would be, and what would be best; nothing changes by asking. What is
 * counted by hand of ticksFor and bestRule is in EdgesOfAnswersTest.
 */
public final class AheadTest {
    private static final int BAD = PeatRailway.BAD, NONE = PeatRailway.NONE;
    private static final int LEAST = Integer.MIN_VALUE, MOST = Integer.MAX_VALUE;

    public static void main(String[] args) {
        errors();
        for (int kind = 0; kind < 4; kind++) {
            ifRunIsWhatRunDoes(kind);
            ticksForIsWhatRunDoes(kind);
            bestRuleIsWhatRunDoes(kind);
            bestLoadIsWhatRunDoes(kind);
        }
        ifRunByHand();
        bestLoadByHand();
        Due.end();
    }

    private static PeatRailway made(int kind) {
        String[] tracks = {"0p,4,4,2p,4,4,0p", "9,9,9p,9,9", "5,0,7p,6p,0,0,9,1", "3,1,3"};
        PeatRailway x = Due.withTrack(tracks[kind]);
        x.set(0, 60 + 80 * kind);
        x.set(1, 2 + 9 * kind);
        x.set(2, kind % 3);
        x.dig(900);
        x.dig(100 + kind);
        x.addTrain(2, 7);
        x.addTrain(1, 20);
        x.addTrain(5, 3 + kind);
        x.run(31 + kind);
        x.addTrain(3, 11);
        return x;
    }

    private static void errors() {
        PeatRailway x = made(0);
        long before = x.digest();
        int[] wrong = {0, -1, 201, LEAST, MOST};
        for (int w : wrong) {
            Due.same(21, "ifRun(" + w + ", 0)", x.ifRun(w, 0), BAD);
            Due.same(23, "bestRule(" + w + ")", x.bestRule(w), BAD);
            Due.same(24, "bestLoad(0, " + w + ")", x.bestLoad(0, w), BAD);
        }
        Due.same(21, "ifRun(1, -1)", x.ifRun(1, -1), BAD);
        Due.same(21, "ifRun(1, 4)", x.ifRun(1, 4), BAD);
        Due.same(21, "ifRun(1, most)", x.ifRun(1, MOST), BAD);
        Due.same(22, "ticksFor(0)", x.ticksFor(0), BAD);
        Due.same(22, "ticksFor(-1)", x.ticksFor(-1), BAD);
        Due.same(22, "ticksFor(1001)", x.ticksFor(1001), BAD);
        Due.same(22, "ticksFor(least)", x.ticksFor(LEAST), BAD);
        Due.same(24, "bestLoad(-1, 1)", x.bestLoad(-1, 1), BAD);
        Due.same(24, "bestLoad(4, 1)", x.bestLoad(4, 1), BAD);
        Due.same(24, "bestLoad(least, 1)", x.bestLoad(LEAST, 1), BAD);
        Due.same(21, "digest behind errors", x.digest(), before);
        PeatRailway y = new PeatRailway();
        Due.same(24, "bestLoad(0, 1) of none", y.bestLoad(0, 1), BAD);
        Due.same(22, "ticksFor(1) without trains", y.ticksFor(1), NONE);
        Due.same(23, "bestRule(200) without trains", y.bestRule(200), 0);
        for (int what = 0; what < 4; what++) {
            Due.same(21, "ifRun(200, " + what + ") without trains", y.ifRun(200, what), 0);
        }
    }

    private static void ifRunIsWhatRunDoes(int kind) {
        PeatRailway x = made(kind);
        PeatRailway y = made(kind);
        long before = x.digest();
        int delivered = y.account(3);
        int waits = y.count(4);
        int worst = 0;
        for (int ticks = 1; ticks <= 200; ticks++) {
            y.run(1);
            worst = Math.max(worst, y.count(3));
            if (ticks % 9 != 1 && ticks < 198) {
                continue;
            }
            Due.same(21, "ifRun(" + ticks + ", 0)", x.ifRun(ticks, 0), y.account(3) - delivered);
            Due.same(21, "ifRun(" + ticks + ", 1)", x.ifRun(ticks, 1), y.count(3));
            Due.same(21, "ifRun(" + ticks + ", 2)", x.ifRun(ticks, 2), y.count(4) - waits);
            Due.same(21, "ifRun(" + ticks + ", 3)", x.ifRun(ticks, 3), worst);
        }
        Due.same(21, "digest behind ifRun", x.digest(), before);
    }

    private static void ticksForIsWhatRunDoes(int kind) {
        PeatRailway x = made(kind);
        PeatRailway y = made(kind);
        long before = x.digest();
        int most = 0;
        int[] due = new int[1001];
        for (int ticks = 1; ticks <= 500; ticks++) {
            int sum = most + y.run(1);
            for (int amount = most + 1; amount <= sum && amount <= 1000; amount++) {
                due[amount] = ticks;
            }
            most = sum;
        }
        for (int amount = 1; amount <= 1000; amount += amount < 100 ? 1 : 50) {
            Due.same(22, "ticksFor(" + amount + ")", x.ticksFor(amount),
                    due[amount] == 0 ? NONE : due[amount]);
        }
        Due.same(22, "digest behind ticksFor", x.digest(), before);
    }

    private static void bestRuleIsWhatRunDoes(int kind) {
        PeatRailway x = made(kind);
        long before = x.digest();
        for (int ticks = 1; ticks <= 200; ticks += 23) {
            int best = 0;
            int most = -1;
            for (int rule = 0; rule < 3; rule++) {
                PeatRailway y = made(kind);
                y.set(2, rule);
                int sum = y.run(ticks);
                if (sum > most) {
                    best = rule;
                    most = sum;
                }
            }
            Due.same(23, "bestRule(" + ticks + ")", x.bestRule(ticks), best);
        }
        Due.same(23, "digest behind bestRule", x.digest(), before);
    }

    private static void bestLoadIsWhatRunDoes(int kind) {
        PeatRailway x = made(kind);
        long before = x.digest();
        for (int train = 0; train < 4; train++) {
            for (int ticks = 1; ticks <= 200; ticks += 66) {
                int best = 0;
                int most = -1;
                for (int load = 1; load <= 20; load++) {
                    PeatRailway y = made(kind);
                    y.setLoad(train, load);
                    int sum = y.run(ticks);
                    if (sum > most) {
                        best = load;
                        most = sum;
                    }
                }
                Due.same(24, "bestLoad(" + train + ", " + ticks + ")", x.bestLoad(train, ticks),
                        best);
            }
        }
        Due.same(24, "digest behind bestLoad", x.digest(), before);
    }

    /** A train that has just enough for one round. */
    private static void ifRunByHand() {
        PeatRailway x = Due.withTrack("9,0,0");
        x.addTrain(1, 3);
        x.dig(3);
        // Weight 9: 8 in a tick; the train leaves in the third one, and the bog rises by 5.
        Due.same(21, "ifRun(2, 1)", x.ifRun(2, 1), 16);
        Due.same(21, "ifRun(3, 1)", x.ifRun(3, 1), 11);
        Due.same(21, "ifRun(3, 3)", x.ifRun(3, 3), 16);
        Due.same(21, "ifRun(6, 0)", x.ifRun(6, 0), 0);
        Due.same(21, "ifRun(7, 0)", x.ifRun(7, 0), 3);
        Due.same(21, "ifRun(12, 2)", x.ifRun(12, 2), 0);
        // It is at the bog again in 11, its rest is over in 12, and from 13 on it waits for peat.
        Due.same(21, "ifRun(13, 2)", x.ifRun(13, 2), 1);
        Due.same(21, "ifRun(15, 2)", x.ifRun(15, 2), 3);
        x.run(2);
        Due.same(21, "ifRun(1, 3): now does not count", x.ifRun(1, 3), 11);
        Due.same(21, "ifRun(5, 0)", x.ifRun(5, 0), 3);
        x.run(18);
        Due.same(21, "ifRun(4, 2): waits of before do not count", x.ifRun(4, 2), 4);
        Due.same(21, "ifRun(4, 0)", x.ifRun(4, 0), 0);
    }

    private static void bestLoadByHand() {
        PeatRailway x = Due.withTrack("0,0,0");
        x.addTrain(2, 9);
        x.dig(25);
        // Two wagons take 12 each of 25 at once; 13 each are too much.
        Due.same(24, "bestLoad(0, 8)", x.bestLoad(0, 8), 12);
        // Nothing is delivered in 7 ticks by any load.
        Due.same(24, "bestLoad(0, 7)", x.bestLoad(0, 7), 1);
        // 24 of 25 in two rounds by 6, in three by 4, in four by 3, ..; in one by 12.
        Due.same(24, "bestLoad(0, 22)", x.bestLoad(0, 22), 6);
        Due.same(24, "the load is still", x.train(0, 1), 9);
        x.run(1);
        // It is under way with 18, whatever its load is now, and 7 are left for the next round.
        Due.same(24, "bestLoad(0, 8)", x.bestLoad(0, 8), 1);
        Due.same(24, "bestLoad(0, 28)", x.bestLoad(0, 28), 3);
    }
}
