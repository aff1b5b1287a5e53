/** The ticks of promise 11, as the description tells them, and why of promise 17. */
public final class TickTest {
    public static void main(String[] args) {
        oneTrainThereAndBack();
        restAndSinking();
        restByHundreds();
        sinkingOfSeveral();
        sinkingHasAGreatest();
        ordersOfTheRules();
        noSecondTurn();
        noPeat();
        sunk();
        noRoom();
        oncoming();
        oncomingIsOfThePassingPlaceAlone();
        crowded();
        crowdedCountsTrainsBetween();
        notCrowdedOnTheWay();
        whyWithRest();
        Due.end();
    }

    /** What a train is to be: its segment, whether it goes up, rest, peat, reason, waits. */
    private static void trainIs(PeatRailway x, int train, int... due) {
        int[] what = {3, 4, 5, 2, 6, 7};
        for (int i = 0; i < due.length; i++) {
            Due.same(11, "at " + x.count(2) + " train(" + train + ", " + what[i] + ")",
                    x.train(train, what[i]), due[i]);
        }
    }

    private static void oneTrainThereAndBack() {
        PeatRailway x = Due.withTrack("0,0,0");
        x.addTrain(2, 3);
        Due.same(11, "run(1) without peat", x.run(1), 0);
        trainIs(x, 0, 0, 0, 0, 0, 1, 1);
        x.dig(5);
        x.run(1);
        trainIs(x, 0, 0, 0, 0, 0, 1, 2);
        x.dig(1);
        int[][] due = {
            {0, 1, 2, 6, 0, 2}, {0, 1, 1, 6, 0, 2}, {0, 1, 0, 6, 0, 2}, {1, 1, 1, 6, 0, 2},
            {1, 1, 0, 6, 0, 2}, {2, 1, 1, 6, 0, 2}, {2, 1, 0, 6, 0, 2}, {2, 0, 2, 0, 0, 2},
            {2, 0, 1, 0, 0, 2}, {2, 0, 0, 0, 0, 2}, {1, 0, 1, 0, 0, 2}, {1, 0, 0, 0, 0, 2},
            {0, 0, 1, 0, 0, 2}, {0, 0, 0, 0, 0, 2}, {0, 0, 0, 0, 1, 3}
        };
        for (int i = 0; i < due.length; i++) {
            Due.same(11, "run(1) at " + x.count(2), x.run(1), i == 7 ? 6 : 0);
            trainIs(x, 0, due[i]);
            Due.same(11, "stock at " + x.count(2), x.account(1), 0);
            Due.same(11, "aboard at " + x.count(2), x.account(2), i < 7 ? 6 : 0);
            Due.same(11, "delivered at " + x.count(2), x.account(3), i < 7 ? 0 : 6);
            Due.same(11, "unloadings at " + x.count(2), x.train(0, 8), i < 7 ? 0 : 1);
        }
        Due.same(11, "clock", x.count(2), 17);
    }

    /** One train of weight 26 on a softness of 9: 26 * 9 / 10 = 23 in each tick. */
    private static void restAndSinking() {
        PeatRailway x = Due.withTrack("9,9,9");
        x.set(0, 900);
        x.set(1, 50);
        x.dig(20);
        x.addTrain(1, 20);
        x.run(1);
        Due.same(11, "segment(0, 2)", x.segment(0, 2), 23);
        x.run(1);
        Due.same(11, "segment(0, 2)", x.segment(0, 2), 46);
        x.run(1);
        trainIs(x, 0, 1, 1, 1, 20, 0, 0);
        Due.same(11, "segment(0, 2) rises to 0 at least", x.segment(0, 2), 0);
        Due.same(11, "segment(1, 2) sinks in the tick of the coming", x.segment(1, 2), 23);
        PeatRailway y = Due.withTrack("9,0,0");
        y.set(0, 900);
        y.set(1, 1);
        y.addTrain(6, 20);
        y.run(71);
        Due.same(11, "16 * 9 / 10 = 14 in each of 71 ticks", y.segment(0, 2), 994);
        y.run(1);
        Due.same(11, "999 at most", y.segment(0, 2), 999);
        y.run(5);
        Due.same(11, "999 at most", y.segment(0, 2), 999);
        restOnSunkSegment();
    }

    /** Three empty trains of weight 16 sink the bog, to which train 0 then comes back. */
    private static void restOnSunkSegment() {
        PeatRailway x = Due.withTrack("9,0,0");
        x.set(0, 442);
        x.dig(1);
        x.addTrain(1, 1);
        for (int i = 0; i < 3; i++) {
            x.addTrain(6, 20);
        }
        x.run(2);
        // (7 + 3 * 16) * 9 / 10 = 49
        Due.same(11, "segment(0, 2)", x.segment(0, 2), 98);
        x.run(8);
        // 3 * 16 * 9 / 10 = 43
        Due.same(11, "segment(0, 2)", x.segment(0, 2), 98 + 8 * 43);
        trainIs(x, 0, 1, 0, 0, 0, 0, 0);
        Due.same(17, "why(0) at the limit itself", x.why(0), 0);
        x.run(1);
        // 1 + 442 / 100; (6 + 3 * 16) * 9 / 10 = 48 more come behind the turns only.
        trainIs(x, 0, 0, 0, 5, 0, 0, 0);
        Due.same(11, "segment(0, 2)", x.segment(0, 2), 490);
        x.run(5);
        trainIs(x, 0, 0, 0, 0, 0, 0, 0);
        x.run(1);
        trainIs(x, 0, 0, 0, 0, 0, 1, 1);
    }

    /**
     * A train comes down to the bog when that has just a given sinking: another train has sunk it
     * before, and it rises by 1 in each tick while the limit keeps the train in the segment 1.
     */
    private static void restByHundreds() {
        int[][] due = {
            {98, 1}, {99, 1}, {100, 2}, {101, 2}, {199, 2}, {200, 3}, {201, 3}, {299, 3}, {300, 4}
        };
        for (int[] d : due) {
            PeatRailway x = Due.withTrack("9,0,0");
            x.set(1, 1);
            x.addTrain(6, 20);
            x.run(1);
            for (int i = 0; i < 100 && x.segment(0, 2) < 330; i++) {
                x.run(1);
            }
            x.dropTrain(0);
            x.addTrain(1, 1);
            x.dig(1);
            // It loads in the first tick, unloads in the seventh and is in the segment 1 in 9.
            x.set(0, 900);
            x.run(10);
            trainIs(x, 0, 1, 0, 0);
            x.set(0, 10);
            for (int i = 0; i < 400 && x.segment(0, 2) > d[0]; i++) {
                x.run(1);
            }
            x.set(0, 900);
            Due.same(11, "segment(0, 2)", x.segment(0, 2), d[0]);
            x.run(1);
            trainIs(x, 0, 0, 0, d[1]);
        }
    }

    private static void sinkingOfSeveral() {
        PeatRailway x = Due.withTrack("3,0,3");
        x.addTrain(1, 1);
        x.addTrain(2, 1);
        x.addTrain(3, 1);
        // 6 + 8 + 10 = 24; 24 * 3 / 10 = 7, while each by itself would make 1 + 2 + 3.
        x.run(1);
        Due.same(11, "segment(0, 2)", x.segment(0, 2), 7);
        Due.same(11, "segment(2, 2)", x.segment(2, 2), 0);
        x.run(2);
        Due.same(11, "segment(0, 2)", x.segment(0, 2), 21);
        PeatRailway y = Due.withTrack("1,1,1");
        y.addTrain(1, 1);
        y.set(1, 50);
        y.run(3);
        // 6 * 1 / 10 = 0: it neither sinks nor rises.
        Due.same(11, "segment(0, 2)", y.segment(0, 2), 0);
        y.addTrain(1, 1);
        y.run(3);
        Due.same(11, "segment(0, 2)", y.segment(0, 2), 3);
        y.dropTrain(1);
        y.run(3);
        Due.same(11, "a light train keeps it from rising", y.segment(0, 2), 3);
        y.set(1, 2);
        y.dropTrain(0);
        y.run(1);
        Due.same(11, "it rises by the recovery", y.segment(0, 2), 1);
        y.run(1);
        Due.same(11, "it rises not below 0", y.segment(0, 2), 0);
    }

    private static void sinkingHasAGreatest() {
        PeatRailway x = Due.withTrack("9,9,9");
        for (int i = 0; i < 4; i++) {
            x.addTrain(6, 20);
        }
        // 64 * 9 / 10 = 57 in each tick.
        x.run(17);
        Due.same(11, "segment(0, 2)", x.segment(0, 2), 969);
        x.run(1);
        Due.same(11, "segment(0, 2)", x.segment(0, 2), 999);
        Due.same(11, "nobody could load", x.count(4), 72);
    }

    /**
     * At 10 one train is about to come down from the segment 1 to the bog, and another one at the
     * bog is about to go up to it: who goes first is told by the rule.
     */
    private static PeatRailway meeting(boolean downIsFirst) {
        PeatRailway x = Due.withTrack("0,0,0");
        int down = downIsFirst ? 0 : 1;
        int up = 1 - down;
        x.addTrain(1, down == 0 ? 1 : 20);
        x.addTrain(1, down == 1 ? 1 : 20);
        x.dig(1);
        x.run(8);
        x.dig(20);
        x.run(2);
        trainIs(x, down, 1, 0, 0, 0, 0, 0);
        trainIs(x, up, 0, 1, 0, 20, 0, 8);
        return x;
    }

    private static void ordersOfTheRules() {
        for (int rule = 0; rule < 3; rule++) {
            for (int down = 0; down < 2; down++) {
                PeatRailway x = meeting(down == 0);
                x.set(2, rule);
                x.run(1);
                boolean upWaits = rule == 0 || rule == 2 && down == 1;
                trainIs(x, down, 0, 0, 1, 0, 0, 0);
                if (upWaits) {
                    trainIs(x, 1 - down, 0, 1, 0, 20, 3, 9);
                } else {
                    trainIs(x, 1 - down, 1, 1, 1, 20, 0, 8);
                }
            }
        }
        ascendingOrder();
    }

    private static void ascendingOrder() {
        for (int rule = 0; rule < 3; rule++) {
            PeatRailway x = new PeatRailway();
            x.set(2, rule);
            x.addTrain(1, 10);
            x.addTrain(1, 8);
            x.addTrain(1, 2);
            x.dig(12);
            x.run(1);
            // Train 0 loads 10 of 12, train 1 finds too little, train 2 loads the last 2.
            Due.same(11, "train(0, 2)", x.train(0, 2), 10);
            Due.same(11, "train(1, 6)", x.train(1, 6), 1);
            Due.same(11, "train(2, 2)", x.train(2, 2), 2);
        }
    }

    /** A train that turns round in its turn has no second one among those of the other way. */
    private static void noSecondTurn() {
        for (int rule = 0; rule < 3; rule++) {
            PeatRailway x = Due.withTrack("0,0,0");
            x.set(2, rule);
            x.addTrain(4, 1);
            x.dig(8);
            x.run(1);
            trainIs(x, 0, 0, 1, 4, 4, 0, 0);
            x.run(4);
            trainIs(x, 0, 0, 1, 0, 4, 0, 0);
            Due.same(11, "run(5)", x.run(5), 4);
            trainIs(x, 0, 2, 0, 4, 0, 0, 0);
        }
    }

    private static void noPeat() {
        PeatRailway x = new PeatRailway();
        x.addTrain(3, 4);
        Due.same(17, "why(0) without peat", x.why(0), 1);
        x.dig(11);
        Due.same(17, "why(0) with too little", x.why(0), 1);
        Due.same(17, "why changes nothing", x.train(0, 6), 0);
        x.dig(1);
        Due.same(17, "why(0) with just enough", x.why(0), 0);
        x.setLoad(0, 5);
        Due.same(17, "why(0) behind setLoad", x.why(0), 1);
        x.run(2);
        trainIs(x, 0, 0, 0, 0, 0, 1, 2);
        x.setLoad(0, 4);
        Due.same(17, "why(0) is of now", x.why(0), 0);
        Due.same(17, "train(0, 6) is of the latest tick", x.train(0, 6), 1);
        x.run(1);
        trainIs(x, 0, 0, 1, 3, 12, 0, 2);
        Due.same(11, "stock", x.account(1), 0);
        Due.same(17, "why(-1)", x.why(-1), PeatRailway.BAD);
        Due.same(17, "why(1)", x.why(1), PeatRailway.BAD);
    }

    private static void sunk() {
        PeatRailway x = Due.withTrack("0,9,0");
        x.set(0, 45);
        x.dig(40);
        x.addTrain(1, 20);
        x.addTrain(1, 20);
        // Train 0 is on the segment 1 in two ticks, 23 deeper in each: 46 is above 45.
        x.run(4);
        Due.same(11, "segment(1, 2)", x.segment(1, 2), 46);
        Due.same(17, "the sinking comes before the room", x.why(1), 2);
        Due.same(17, "count(7)", x.count(7), 2);
        x.run(1);
        trainIs(x, 0, 2, 1, 1, 20, 0, 0);
        trainIs(x, 1, 0, 1, 0, 20, 2, 3);
        Due.same(11, "segment(1, 2)", x.segment(1, 2), 41);
        Due.same(17, "the reason of the latest tick stays", x.train(1, 6), 2);
        Due.same(17, "why(1) is of now", x.why(1), 0);
        x.set(0, 41);
        Due.same(17, "a sinking of the limit itself", x.why(1), 0);
        x.set(0, 40);
        Due.same(17, "a sinking above the limit", x.why(1), 2);
        x.set(0, 41);
        x.run(1);
        trainIs(x, 1, 1, 1, 1, 20, 0, 3);
    }

    private static void noRoom() {
        PeatRailway x = Due.withTrack("0,0,0");
        x.dig(40);
        x.addTrain(1, 20);
        x.addTrain(1, 20);
        x.run(2);
        Due.same(17, "why(1)", x.why(1), 0);
        x.run(1);
        trainIs(x, 0, 1, 1, 1, 20, 0, 0);
        trainIs(x, 1, 0, 1, 0, 20, 3, 1);
        Due.same(17, "why(1)", x.why(1), 3);
        x.run(1);
        trainIs(x, 1, 0, 1, 0, 20, 3, 2);
        x.run(1);
        trainIs(x, 0, 2, 1, 1, 20, 0, 0);
        trainIs(x, 1, 1, 1, 1, 20, 0, 2);
        passingPlaceHasRoomForTwo();
        endsHaveRoomForAll();
    }

    /** Three trains go up to the segment 1, a passing place that none can leave. */
    private static void passingPlaceHasRoomForTwo() {
        PeatRailway x = Due.withTrack("0,0p,9p,0");
        x.set(0, 10);
        x.set(1, 1);
        x.dig(100);
        for (int i = 0; i < 4; i++) {
            x.addTrain(1, 20);
        }
        x.run(3);
        // Two go in, one behind the other in the same tick, and there is no room for a third.
        trainIs(x, 0, 1, 1, 1, 20, 0, 0);
        trainIs(x, 1, 1, 1, 1, 20, 0, 0);
        trainIs(x, 2, 0, 1, 0, 20, 3, 1);
        trainIs(x, 3, 0, 1, 0, 20, 3, 1);
        Due.same(15, "segment(1, 5)", x.segment(1, 5), 0);
        x.run(2);
        // The rest is over: both move on together, and the next two come behind them.
        trainIs(x, 0, 2, 1, 1, 20, 0, 0);
        trainIs(x, 1, 2, 1, 1, 20, 0, 0);
        trainIs(x, 2, 1, 1, 1, 20, 0, 2);
        trainIs(x, 3, 1, 1, 1, 20, 0, 2);
    }

    private static void endsHaveRoomForAll() {
        PeatRailway x = Due.withTrack("0,0p,0");
        x.dig(4);
        for (int i = 0; i < 4; i++) {
            x.addTrain(1, 1);
        }
        x.set(2, 2);
        x.run(4);
        Due.same(15, "segment(1, 5)", x.segment(1, 5), 0);
        x.run(3);
        Due.same(15, "segment(2, 3)", x.segment(2, 3), 4);
        Due.same(15, "segment(2, 5)", x.segment(2, 5), 0);
        for (int i = 0; i < 4; i++) {
            Due.same(11, "waits of train " + i, x.train(i, 7), i < 2 ? 0 : 2);
        }
    }

    /**
     * At 10 train 0 is about to go down from the works, over the segments 2 and 1, and train 1 is
     * about to go up from the bog.
     */
    private static PeatRailway headOn() {
        PeatRailway x = Due.withTrack("0,0,0,0");
        x.addTrain(1, 1);
        x.dig(1);
        x.run(8);
        x.addTrain(1, 1);
        x.dig(1);
        x.run(2);
        trainIs(x, 0, 3, 0, 0, 0, 0, 0);
        trainIs(x, 1, 0, 1, 0, 1, 0, 0);
        return x;
    }

    private static void oncoming() {
        PeatRailway x = headOn();
        Due.same(17, "why(0)", x.why(0), 0);
        Due.same(17, "why(1)", x.why(1), 0);
        x.set(2, 1);
        x.run(1);
        trainIs(x, 0, 2, 0, 1, 0, 0, 0);
        trainIs(x, 1, 0, 1, 0, 1, 4, 1);
        Due.same(17, "why(1)", x.why(1), 4);
        Due.same(17, "why(0), as if its rest was 0", x.why(0), 0);
        x.run(2);
        trainIs(x, 0, 1, 0, 1, 0, 0, 0);
        trainIs(x, 1, 0, 1, 0, 1, 3, 3);
        x.run(2);
        trainIs(x, 0, 0, 0, 1, 0, 0, 0);
        trainIs(x, 1, 1, 1, 1, 1, 0, 4);
        PeatRailway y = headOn();
        y.run(1);
        trainIs(y, 0, 3, 0, 0, 0, 4, 1);
        trainIs(y, 1, 1, 1, 1, 1, 0, 0);
        y.run(2);
        trainIs(y, 0, 3, 0, 0, 0, 3, 3);
        trainIs(y, 1, 2, 1, 1, 1, 0, 0);
    }

    /** Trains beyond the next passing place, and in it, do not count as oncoming ones. */
    private static void oncomingIsOfThePassingPlaceAlone() {
        PeatRailway x = Due.withTrack("0,0,0p,0,0");
        x.set(2, 1);
        x.addTrain(1, 1);
        x.dig(1);
        // Train 0: 1 at 3, 2 at 5, 3 at 7, 4 at 9, unloads at 11, then 3 at 13, 2 at 15, 1 at 17.
        x.run(11);
        x.addTrain(1, 1);
        x.dig(1);
        x.run(2);
        trainIs(x, 0, 3, 0, 1, 0, 0, 0);
        trainIs(x, 1, 0, 1, 0, 1, 0, 0);
        Due.same(17, "why(1) with a train beyond the passing place", x.why(1), 0);
        PeatRailway y = Due.withTrack("0,0,0p,0,0");
        y.set(2, 1);
        y.addTrain(1, 1);
        y.dig(1);
        y.run(13);
        y.addTrain(1, 1);
        y.dig(1);
        y.run(2);
        trainIs(y, 0, 2, 0, 1, 0, 0, 0);
        trainIs(y, 1, 0, 1, 0, 1, 0, 0);
        Due.same(17, "why(1) with a train in the passing place", y.why(1), 0);
        y.run(1);
        trainIs(y, 1, 1, 1, 1, 1, 0, 0);
        Due.same(17, "why(0) is 3 as the segment is full", y.why(0), 3);
        y.run(1);
        trainIs(y, 0, 2, 0, 0, 0, 3, 1);
        y.run(1);
        trainIs(y, 1, 2, 1, 1, 1, 0, 0);
    }

    /** Train 0 sinks the segment 3; the next two stop before it, and train 3 stays at the bog. */
    private static void crowded() {
        PeatRailway x = Due.withTrack("0,0,0p,9,0");
        x.set(0, 10);
        x.set(1, 1);
        x.dig(100);
        x.addTrain(1, 20);
        x.addTrain(1, 1);
        x.addTrain(1, 1);
        x.addTrain(1, 1);
        x.run(7);
        trainIs(x, 0, 3, 1, 1, 20, 0, 0);
        trainIs(x, 1, 2, 1, 1, 1, 0, 2);
        trainIs(x, 2, 1, 1, 1, 1, 0, 4);
        trainIs(x, 3, 0, 1, 0, 1, 3, 5);
        x.run(2);
        trainIs(x, 0, 4, 1, 1, 20, 0, 0);
        trainIs(x, 1, 2, 1, 0, 1, 2, 3);
        trainIs(x, 2, 2, 1, 1, 1, 0, 4);
        trainIs(x, 3, 0, 1, 0, 1, 5, 7);
        Due.same(17, "why(3)", x.why(3), 5);
        x.run(3);
        trainIs(x, 2, 2, 1, 0, 1, 2, 6);
        trainIs(x, 3, 0, 1, 0, 1, 5, 10);
        x.dropTrain(1);
        Due.same(17, "why of the last one behind dropTrain", x.why(2), 0);
        x.undo();
        // Train 0 on its way down would come to a full passing place, too.
        x.set(0, 900);
        Due.same(17, "why(0) at the works, going down", x.why(0), 5);
        x.set(0, 10);
        Due.same(17, "why(0) by the sinking first", x.why(0), 2);
    }

    private static void crowdedCountsTrainsBetween() {
        PeatRailway x = Due.withTrack("0,0,0,0p,9,0");
        x.set(0, 10);
        x.set(1, 1);
        x.dig(100);
        x.addTrain(1, 20);
        x.addTrain(1, 1);
        x.addTrain(1, 1);
        x.addTrain(1, 1);
        // Train 0: 1 at 3, 2 at 5, 3 at 7, 4 at 9; train 1 two ticks behind it, and so on.
        x.run(7);
        trainIs(x, 0, 3, 1, 1, 20, 0, 0);
        trainIs(x, 1, 2, 1, 1, 1, 0, 2);
        trainIs(x, 2, 0, 1, 0, 1, 5, 5);
        x.run(2);
        trainIs(x, 0, 4, 1, 1, 20, 0, 0);
        trainIs(x, 1, 3, 1, 1, 1, 0, 2);
        trainIs(x, 2, 1, 1, 1, 1, 0, 6);
        trainIs(x, 3, 0, 1, 0, 1, 3, 7);
        x.run(2);
        trainIs(x, 2, 2, 1, 1, 1, 0, 6);
        trainIs(x, 3, 0, 1, 0, 1, 5, 9);
        Due.same(17, "why(3), one between and one in the passing place", x.why(3), 5);
        x.dropTrain(2);
        Due.same(17, "why(2), none between and one in the passing place", x.why(2), 0);
        x.undo();
        x.dropTrain(1);
        Due.same(17, "why(2), one between and none in the passing place", x.why(2), 0);
    }

    /** Trains 0 and 1 come down to the segment 3 while train 2 is on its way up to it. */
    private static void notCrowdedOnTheWay() {
        PeatRailway x = Due.withTrack("0,0,0,0p,0,0");
        x.addTrain(1, 1);
        x.addTrain(1, 1);
        x.dig(2);
        x.run(15);
        x.addTrain(1, 1);
        x.dig(1);
        x.run(3);
        trainIs(x, 0, 3, 0, 0, 0, 0, 0);
        trainIs(x, 1, 4, 0, 0, 0, 0, 2);
        trainIs(x, 2, 1, 1, 1, 1, 0, 0);
        x.run(1);
        trainIs(x, 0, 3, 0, 0, 0, 4, 1);
        trainIs(x, 1, 3, 0, 1, 0, 0, 2);
        trainIs(x, 2, 1, 1, 0, 1, 0, 0);
        // The reasons 4 and 5 are for trains in passing places: it goes on to the segment 2.
        Due.same(17, "why(2)", x.why(2), 0);
        x.run(1);
        trainIs(x, 2, 2, 1, 1, 1, 0, 0);
        x.run(2);
        trainIs(x, 2, 2, 1, 0, 1, 3, 1);
    }

    private static void whyWithRest() {
        PeatRailway x = Due.withTrack("0,9,0");
        x.set(0, 10);
        x.dig(20);
        x.addTrain(1, 20);
        x.run(1);
        trainIs(x, 0, 0, 1, 1, 20, 0, 0);
        Due.same(17, "why(0) with a rest of 1", x.why(0), 0);
        x.run(4);
        trainIs(x, 0, 2, 1, 1, 20, 0, 0);
        Due.same(17, "why(0) at the works, going up", x.why(0), 0);
        x.run(2);
        trainIs(x, 0, 2, 0, 1, 0, 0, 0);
        Due.same(17, "why(0) at the works, going down", x.why(0), 2);
    }
}
