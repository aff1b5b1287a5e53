/**
 * "Trains and peat." and "A tick." of the description at their edges; the reasons 2 to 5 are in
 * EdgesOfReasonsTest.
 */
public final class EdgesOfTickTest {
    public static void main(String[] args) {
        weights();
        aNewTrain();
        restOfEveryNumberOfWagons();
        stockJustEnough();
        stockThatAnotherTrainLeaves();
        loadHoldsFromTheNextLoading();
        risingStopsAtZero();
        everyEmptySegmentRises();
        sinkingByOneUpTo999();
        sinkingBeyond999();
        sinkingIsRoundedDown();
        sinkingIsOfTheSum();
        weightBehindAllTurns();
        restIsRoundedDown();
        limitOfTheFirstSettings();
        waitsAreCountedForTheTrain();
        clockAndDelivered();
        orderAtTheBeginningOfTheTick();
        orderOfTheRules();
        Due.end();
    }

    // ---- trains

    /** "Its weight is 4 plus 2 for each wagon plus its peat."; 1 to 6 wagons, loads of 1 to 20. */
    private static void weights() {
        for (int wagons = 1; wagons <= 6; wagons++) {
            for (int load = 1; load <= 20; load++) {
                PeatRailway x = Due.withTrack("0,0,0");
                x.dig(wagons * load);
                Due.same(8, "addTrain()", x.addTrain(wagons, load), 0);
                Due.same(16, "empty weight of " + wagons, x.train(0, 9), 4 + 2 * wagons);
                x.run(1);
                Due.same(16, "peat of " + wagons + " by " + load, x.train(0, 2), wagons * load);
                Due.same(16, "weight of " + wagons + " by " + load, x.train(0, 9),
                        4 + 2 * wagons + wagons * load);
                Due.same(15, "weight in the bog", x.segment(0, 4), 4 + 2 * wagons + wagons * load);
                x.run(wagons + 5);
                Due.same(16, "weight behind unloading", x.train(0, 9), 4 + 2 * wagons);
            }
        }
    }

    /** "A new train is empty, in segment 0, goes down, and its rest is 0."; it has not waited. */
    private static void aNewTrain() {
        PeatRailway x = Scene.some();
        isNew(x, 2);
        // Train 1 has waited in the latest tick, by the reason 3.
        Due.same(16, "train(1, 6)", x.train(1, 6), 3);
        x.dropTrain(2);
        x.dropTrain(1);
        isNew(x, 1);
        x.clear();
        Due.type(x, "0,0,0");
        x.run(3);
        x.layTrack();
        isNew(x, 0);
        x.undo();
        x.undo();
        isNew(x, 2);
    }

    private static void isNew(PeatRailway x, int number) {
        Due.same(8, "addTrain(6, 20)", x.addTrain(6, 20), number);
        int[] due = {6, 20, 0, 0, 0, 0, 0, 0, 0, 16};
        for (int what = 0; what < due.length; what++) {
            Due.same(8, "train(" + number + ", " + what + ")", x.train(number, what), due[what]);
        }
    }

    /** "its rest becomes the number of its wagons", and a rest above 0 decreases by 1 in a tick. */
    private static void restOfEveryNumberOfWagons() {
        for (int wagons = 1; wagons <= 6; wagons++) {
            PeatRailway x = Due.withTrack("0,0,0");
            x.dig(wagons);
            x.addTrain(wagons, 1);
            for (int rest = wagons; rest >= 0; rest--) {
                tickLeaves(x, 0, true, rest);
            }
            tickLeaves(x, 1, true, 1);
            tickLeaves(x, 1, true, 0);
            tickLeaves(x, 2, true, 1);
            tickLeaves(x, 2, true, 0);
            Due.same(11, "nothing is delivered before", x.account(3), 0);
            Due.same(16, "how often it has unloaded", x.train(0, 8), 0);
            for (int rest = wagons; rest >= 0; rest--) {
                tickLeaves(x, 2, false, rest);
                Due.same(11, "delivered", x.account(3), wagons);
                Due.same(16, "how often it has unloaded", x.train(0, 8), 1);
            }
            tickLeaves(x, 1, false, 1);
            tickLeaves(x, 1, false, 0);
            tickLeaves(x, 0, false, 1);
            tickLeaves(x, 0, false, 0);
            Due.same(11, "waits", x.train(0, 7), 0);
        }
    }

    private static void tickLeaves(PeatRailway x, int segment, boolean up, int rest) {
        x.run(1);
        String when = " at " + x.count(2) + " of " + x.train(0, 0) + " wagons";
        Due.same(11, "segment" + when, x.train(0, 3), segment);
        Due.same(11, "direction" + when, x.train(0, 4), up ? 1 : 0);
        Due.same(11, "rest" + when, x.train(0, 5), rest);
        Due.same(11, "reason" + when, x.train(0, 6), 0);
    }

    // ---- the stock

    /** "it loads, if the stock is at least its wagons times its load for each" */
    private static void stockJustEnough() {
        for (int wagons = 1; wagons <= 6; wagons++) {
            for (int load : new int[] {1, 2, 7, 19, 20}) {
                int full = wagons * load;
                for (int stock = Math.max(full - 1, 1); stock <= full + 1; stock++) {
                    PeatRailway x = new PeatRailway();
                    x.dig(stock);
                    x.addTrain(wagons, load);
                    boolean enough = stock >= full;
                    String call = wagons + " wagons by " + load + ", stock " + stock + ": ";
                    Due.same(17, call + "why(0)", x.why(0), enough ? 0 : 1);
                    x.run(1);
                    Due.same(11, call + "stock", x.account(1), enough ? stock - full : stock);
                    Due.same(11, call + "peat", x.train(0, 2), enough ? full : 0);
                    Due.same(11, call + "direction", x.train(0, 4), enough ? 1 : 0);
                    Due.same(11, call + "rest", x.train(0, 5), enough ? wagons : 0);
                    Due.same(11, call + "reason", x.train(0, 6), enough ? 0 : 1);
                    Due.same(11, call + "waits", x.train(0, 7), enough ? 0 : 1);
                }
            }
        }
        PeatRailway x = new PeatRailway();
        x.addTrain(1, 1);
        Due.same(17, "why(0) of no stock", x.why(0), 1);
    }

    /** Each train in its turn finds what the turns before have left. */
    private static void stockThatAnotherTrainLeaves() {
        for (int stock = 9; stock <= 12; stock++) {
            PeatRailway x = new PeatRailway();
            x.dig(stock);
            x.addTrain(1, 5);
            x.addTrain(2, 3);
            Due.same(17, "why(1), as if it was its turn before all", x.why(1), 0);
            x.run(1);
            Due.same(11, "peat of the first one", x.train(0, 2), 5);
            Due.same(11, "peat of the second one, stock " + stock, x.train(1, 2),
                    stock >= 11 ? 6 : 0);
            Due.same(11, "its reason, stock " + stock, x.train(1, 6), stock >= 11 ? 0 : 1);
        }
    }

    /** "it holds from its next loading on"; "its peat is then what it was loaded with" */
    private static void loadHoldsFromTheNextLoading() {
        PeatRailway x = Due.withTrack("0,0,0");
        x.dig(100);
        x.addTrain(1, 20);
        x.run(1);
        Due.same(10, "setLoad(0, 1)", x.setLoad(0, 1), 20);
        Due.same(10, "peat", x.train(0, 2), 20);
        Due.same(10, "run(6)", x.run(6), 20);
        x.run(5);
        Due.same(10, "peat before the next loading", x.train(0, 2), 0);
        x.run(1);
        Due.same(10, "peat of the next loading", x.train(0, 2), 1);
    }

    // ---- rising and sinking

    /** "its sinking decreases by the recovery, but not below 0" */
    private static void risingStopsAtZero() {
        for (int recovery : new int[] {1, 2, 5, 49, 50}) {
            for (int more = -1; more <= 1; more++) {
                PeatRailway x = Scene.sunkBy(recovery + more);
                x.set(1, recovery);
                x.dropTrain(0);
                x.run(1);
                Due.same(11, (recovery + more) + " less " + recovery, x.segment(0, 2),
                        Math.max(more, 0));
                x.run(1);
                Due.same(11, "not below 0", x.segment(0, 2), 0);
            }
        }
        PeatRailway x = Scene.sunkBy(8);
        x.dropTrain(0);
        x.run(1);
        Due.same(11, "the first recovery is 5", x.segment(0, 2), 3);
    }

    /** "Each segment in which there is no train rises"; none rises while a train is there. */
    private static void everyEmptySegmentRises() {
        PeatRailway x = Scene.of("9,9,9,9", "+1");
        x.setLoad(0, 20);
        x.set(1, 1);
        x.run(7);
        int[] before = new int[4];
        for (int s = 0; s < 4; s++) {
            before[s] = x.segment(s, 2);
            Due.holds(11, "the segment " + s + " is sunk", before[s] > 1);
        }
        Due.same(11, "the train is at the works", x.train(0, 3), 3);
        x.run(1);
        for (int s = 0; s < 3; s++) {
            Due.same(11, "the segment " + s + " rises", x.segment(s, 2), before[s] - 1);
        }
        Due.same(11, "the works sink", x.segment(3, 2), before[3] + 23);
        x.dropTrain(0);
        x.run(1);
        Due.same(11, "the works rise", x.segment(3, 2), before[3] + 22);
    }

    /** "Each has a sinking, 0 to 999"; "but not above 999" */
    private static void sinkingByOneUpTo999() {
        PeatRailway x = Scene.sunkBy(998);
        x.run(1);
        Due.same(11, "998 and 1", x.segment(0, 2), 999);
        x.run(1);
        Due.same(11, "999 and 1", x.segment(0, 2), 999);
        x.run(200);
        Due.same(11, "999 and 200", x.segment(0, 2), 999);
        x.dropTrain(0);
        x.run(1);
        Due.same(11, "999 less 5", x.segment(0, 2), 994);
    }

    /** From just below, by more than 1: exactly to 999, and what would be just above. */
    private static void sinkingBeyond999() {
        int[][] due = {{969, 999}, {970, 999}, {968, 998}, {990, 999}, {998, 999}, {999, 999}};
        for (int[] d : due) {
            PeatRailway x = Scene.sunkBy(d[0]);
            x.addTrain(6, 20);
            x.addTrain(4, 15);
            x.dig(80 + 120 + 60);
            x.run(1);
            Due.same(11, "weight in the bog", x.segment(0, 4), 92 + 136 + 72);
            Due.same(11, d[0] + " and 30", x.segment(0, 2), d[1]);
        }
    }

    /** "the sum of the weights .. * softness / 10"; "All divisions are rounded down." */
    private static void sinkingIsRoundedDown() {
        for (int softness = 0; softness <= 9; softness++) {
            for (int wagons = 1; wagons <= 6; wagons++) {
                PeatRailway x = Due.withTrack(softness + ",0,0");
                x.addTrain(wagons, 20);
                x.run(1);
                Due.same(11, "softness " + softness + ", wagons " + wagons, x.segment(0, 2),
                        (4 + 2 * wagons) * softness / 10);
                x.dig(120);
                x.run(1);
                Due.same(11, "loaded, softness " + softness + ", wagons " + wagons,
                        x.segment(0, 2), (4 + 2 * wagons) * softness / 10
                        + (4 + 22 * wagons) * softness / 10);
            }
        }
        // 19 / 10, 20 / 10 and 21 / 10.
        int[] peat = {13, 14, 15};
        for (int i = 0; i < 3; i++) {
            PeatRailway x = Due.withTrack("1,0,0");
            x.dig(peat[i]);
            x.addTrain(1, peat[i]);
            x.run(1);
            Due.same(11, "a weight of " + x.train(0, 9), x.segment(0, 2), i == 0 ? 1 : 2);
        }
    }

    /** The sum is multiplied and divided, not each weight: 6 / 10 is 0, 2 * 6 / 10 is 1. */
    private static void sinkingIsOfTheSum() {
        int[] due = {0, 1, 1, 2};
        PeatRailway x = Due.withTrack("1,0,0");
        for (int trains = 1; trains <= 4; trains++) {
            int before = x.segment(0, 2);
            x.addTrain(1, 1);
            x.run(1);
            Due.same(11, "trains of weight 6: " + trains, x.segment(0, 2) - before,
                    due[trains - 1]);
        }
        PeatRailway y = Due.withTrack("9,0,0");
        y.dig(480);
        for (int i = 0; i < 4; i++) {
            y.addTrain(6, 20);
        }
        y.run(1);
        Due.same(11, "the greatest weight, 544 * 9 / 10", y.segment(0, 2), 489);
    }

    /** "the trains that are there behind all turns", with the peat that they have then */
    private static void weightBehindAllTurns() {
        PeatRailway x = Due.withTrack("1,1,1");
        x.dig(4);
        x.addTrain(1, 4);
        x.set(1, 50);
        // Empty it weighs 6, which sinks nothing; loaded 10.
        sinkingsAre(x, 0, 1, 0, 0);
        sinkingsAre(x, 1, 2, 0, 0);
        // It leaves the bog, which rises in the same tick, and sinks where it comes to.
        sinkingsAre(x, 2, 0, 1, 0);
        sinkingsAre(x, 3, 0, 2, 0);
        sinkingsAre(x, 4, 0, 0, 1);
        sinkingsAre(x, 5, 0, 0, 2);
        // It unloads, and weighs 6 again: the works neither sink nor rise.
        sinkingsAre(x, 6, 0, 0, 2);
        sinkingsAre(x, 7, 0, 0, 2);
        sinkingsAre(x, 8, 0, 0, 0);
    }

    private static void sinkingsAre(PeatRailway x, int clock, int... due) {
        Due.same(11, "clock", x.count(2), clock);
        x.run(1);
        for (int s = 0; s < due.length; s++) {
            Due.same(11, "sinking of " + s + " in the tick " + clock, x.segment(s, 2), due[s]);
        }
    }

    // ---- going on to a sunk segment

    /**
     * Train 1 stands in the segment 1 with a rest of 0, about to go down to the bog, which has the
     * sinking and gets 1 deeper in each tick by train 0; by 1 more while train 1 has 3 wagons and
     * is there, too.
     */
    private static PeatRailway aboutToComeDown(int sinking, int wagons) {
        int ticks = 8 + 2 * wagons;
        PeatRailway x = Scene.sunkBy(sinking - ticks - (wagons == 3 ? 4 : 0));
        x.dig(wagons);
        x.addTrain(wagons, 1);
        x.run(ticks);
        Due.same(11, "places", Scene.places(x).equals("0d 1d") ? 1 : 0, 1);
        Due.same(11, "rest of train 1", x.train(1, 5), 0);
        Due.same(11, "segment(0, 2)", x.segment(0, 2), sinking);
        return x;
    }

    /** "its rest becomes 1 plus (the sinking of that segment) / 100"; "2: .. above the limit" */
    private static void restIsRoundedDown() {
        int[] sinkings = {
            10, 11, 99, 100, 101, 199, 200, 299, 300, 399, 400, 499, 500, 599, 600, 699, 700, 799,
            800, 899, 900
        };
        for (int sinking : sinkings) {
            waitsAboveTheLimit(sinking, 1);
            if (sinking > 18) {
                waitsAboveTheLimit(sinking, 3);
            }
        }
        PeatRailway x = aboutToComeDown(901, 1);
        x.set(0, 900);
        waitsBeforeTheBog(x);
    }

    private static void waitsAboveTheLimit(int sinking, int wagons) {
        PeatRailway x = aboutToComeDown(sinking, wagons);
        if (sinking > 10) {
            x.set(0, sinking - 1);
            waitsBeforeTheBog(x);
            x.undo();
            x.undo();
        }
        x.set(0, sinking);
        // The sinking that counts is that of before the tick settles.
        comesToTheBog(x, 1 + sinking / 100);
        Due.same(11, "sinking behind the tick", x.segment(0, 2), sinking + (wagons == 3 ? 2 : 1));
    }

    private static void waitsBeforeTheBog(PeatRailway x) {
        nextTickOfTrain1(x, 2, 1, 0);
    }

    private static void comesToTheBog(PeatRailway x, int rest) {
        nextTickOfTrain1(x, 0, 0, rest);
    }

    private static void nextTickOfTrain1(PeatRailway x, int reason, int segment, int rest) {
        String when = ", sinking " + x.segment(0, 2) + ", limit " + x.setting(0);
        Due.same(17, "why(1)" + when, x.why(1), reason);
        Due.same(19, "count(7)" + when, x.count(7), reason == 2 ? 1 : 0);
        int waits = x.train(1, 7);
        x.run(1);
        Due.same(11, "train(1, 3)" + when, x.train(1, 3), segment);
        Due.same(11, "train(1, 5)" + when, x.train(1, 5), rest);
        Due.same(11, "train(1, 6)" + when, x.train(1, 6), reason);
        Due.same(11, "train(1, 7)" + when, x.train(1, 7), reason == 2 ? waits + 1 : waits);
    }

    /** "the limit of sinking (10 to 900; at first 300)" */
    private static void limitOfTheFirstSettings() {
        comesToTheBog(aboutToComeDown(300, 1), 4);
        waitsBeforeTheBog(aboutToComeDown(301, 1));
    }

    /** "A train that waits in a tick counts a wait for itself." */
    private static void waitsAreCountedForTheTrain() {
        PeatRailway x = new PeatRailway();
        x.dig(1);
        x.addTrain(1, 2);
        x.addTrain(1, 1);
        x.addTrain(1, 3);
        for (int ticks = 1; ticks <= 3; ticks++) {
            x.run(1);
            Due.same(11, "waits of train 0", x.train(0, 7), ticks);
            Due.same(11, "waits of train 1", x.train(1, 7), 0);
            Due.same(11, "waits of train 2", x.train(2, 7), ticks);
            Due.same(19, "count(4)", x.count(4), 2 * ticks);
        }
    }

    /** "The clock increases by 1."; run "returns how much peat was delivered in them". */
    private static void clockAndDelivered() {
        PeatRailway x = Due.withTrack("0,0,0");
        x.dig(1);
        x.addTrain(1, 1);
        Due.same(11, "run(1)", x.run(1), 0);
        Due.same(19, "count(2)", x.count(2), 1);
        Due.same(11, "run(5)", x.run(5), 0);
        Due.same(11, "run(1), in which it is delivered", x.run(1), 1);
        Due.same(11, "run(1) behind it", x.run(1), 0);
        Due.same(19, "count(2)", x.count(2), 8);
        Due.same(11, "run(200)", x.run(200), 0);
        Due.same(19, "count(2)", x.count(2), 208);
        Due.same(18, "account(3)", x.account(3), 1);
    }

    // ---- the order of the turns

    /** "(as they go at the beginning of the tick)": who turns round has no second turn. */
    private static void orderAtTheBeginningOfTheTick() {
        for (int rule = 0; rule <= 2; rule++) {
            PeatRailway x = Due.withTrack("0,0,0");
            x.set(2, rule);
            x.dig(6);
            x.addTrain(3, 1);
            x.run(1);
            Due.same(11, "rest behind loading by rule " + rule, x.train(0, 5), 3);
            x.run(8);
            Due.same(11, "delivered", x.account(3), 3);
            Due.same(11, "rest behind unloading by rule " + rule, x.train(0, 5), 3);
        }
    }

    /**
     * Three trains on the track 0,0p,0: one about to come down from the passing place, and two at
     * the bog; the passing place has room for one more of them before the first one has left.
     */
    private static void orderOfTheRules() {
        int[][] numbers = {{0, 1, 2}, {1, 0, 2}, {2, 0, 1}};
        for (int[] n : numbers) {
            for (int rule = 0; rule <= 2; rule++) {
                PeatRailway x = twoAgainstOne(n);
                x.set(2, rule);
                x.run(1);
                boolean downIsFirst = rule == 1 || rule == 2 && n[0] < n[2];
                String when = " by rule " + rule + ", number " + n[0];
                Due.same(11, "the one that comes down" + when, x.train(n[0], 3), 0);
                Due.same(11, "the lower one" + when, x.train(n[1], 3), 1);
                Due.same(11, "the higher one" + when, x.train(n[2], 3), downIsFirst ? 1 : 0);
                Due.same(11, "its reason" + when, x.train(n[2], 6), downIsFirst ? 0 : 3);
                Due.same(11, "its waits" + when, x.train(n[2], 7) - 8, downIsFirst ? 0 : 1);
            }
        }
    }

    private static PeatRailway twoAgainstOne(int[] n) {
        PeatRailway x = Due.withTrack("0,0p,0");
        for (int train = 0; train < 3; train++) {
            x.addTrain(1, train == n[0] ? 1 : 20);
        }
        x.dig(1);
        x.run(8);
        x.dig(40);
        x.run(2);
        Due.same(11, "segment of the first one", x.train(n[0], 3), 1);
        Due.same(11, "it goes down", x.train(n[0], 4), 0);
        Due.same(11, "the others are at the bog", x.segment(0, 3), 2);
        return x;
    }
}
