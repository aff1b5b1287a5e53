/** The promises 15 to 26 at their edges: what is told, and what is told of what would be. */
public final class EdgesOfAnswersTest {
    private static final int BAD = PeatRailway.BAD, NONE = PeatRailway.NONE;

    public static void main(String[] args) {
        firstAndLastSegment();
        ticksToRise();
        firstAndLastTrain();
        accountsOfNothingAndOfAll();
        masksOfTheSegments();
        sumsOfTheTrainsThatAreThere();
        settingsAtTheirEnds();
        ifRunOfOneTickAndOf200();
        ifRunJustBeforeAndBehind();
        ticksForJustEnough();
        ticksForUpTo500();
        ticksForTheGreatestAmount();
        bestRuleIsTheLowest();
        bestRuleIsTheLastOne();
        bestLoadIsTheLeast();
        bestLoadAtTheEnds();
        meanSinkingIsNotRounded();
        digestOfTheEnds();
        Due.end();
    }

    /** "the segment": 0 to the last one, which the track tells. */
    private static void firstAndLastSegment() {
        for (int segments = 3; segments <= 12; segments++) {
            PeatRailway x = Due.withTrack("9,8,7,6,5,4,3,2,1,0,9,8".substring(0, 2 * segments - 1));
            int last = segments - 1;
            Due.same(19, "count(0)", x.count(0), segments);
            int[][] due = {{9, 1, 0, 0, 0, 4, 0}, {8, 0, 0, 0, 0, 1, 0}, {0, 1, 0, 0, 0, 4, 0}};
            due[2][0] = last <= 9 ? 9 - last : 19 - last;
            int[] segment = {0, 1, last};
            for (int i = 0; i < 3; i++) {
                for (int what = 0; what <= 6; what++) {
                    Due.same(15, "segment(" + segment[i] + ", " + what + ")",
                            x.segment(segment[i], what), due[i][what]);
                }
                Due.same(15, "segment(" + segment[i] + ", 7)", x.segment(segment[i], 7), BAD);
                Due.same(15, "segment(" + segment[i] + ", -1)", x.segment(segment[i], -1), BAD);
            }
            Due.same(15, "segment(-1, 0)", x.segment(-1, 0), BAD);
            Due.same(15, "segment(" + segments + ", 0)", x.segment(segments, 0), BAD);
            Due.same(15, "segment(" + segments + ", 6)", x.segment(segments, 6), BAD);
        }
    }

    /** "how many ticks it would at least have to be without trains"; "(0 if it is not now)" */
    private static void ticksToRise() {
        for (int limit : new int[] {10, 300, 900}) {
            for (int recovery : new int[] {1, 2, 5, 49, 50}) {
                int[][] due = {
                    {limit - 1, 0}, {limit, 0}, {limit + 1, 1}, {limit + recovery, 1},
                    {limit + recovery + 1, 2}, {limit + 2 * recovery - 1, recovery == 1 ? 1 : 2},
                    {limit + 2 * recovery, 2}
                };
                for (int[] d : due) {
                    if (d[0] <= 999) {
                        risesIn(d[0], limit, recovery, d[1]);
                    }
                }
            }
        }
        risesIn(999, 10, 1, 989);
        risesIn(999, 10, 50, 20);
        risesIn(999, 900, 50, 2);
        risesIn(999, 899, 50, 2);
        risesIn(999, 898, 50, 3);
    }

    private static void risesIn(int sinking, int limit, int recovery, int due) {
        PeatRailway x = Scene.sunkBy(sinking);
        x.set(0, limit);
        x.set(1, recovery);
        String call = sinking + ", limit " + limit + ", recovery " + recovery;
        Due.same(15, "segment(0, 6) of " + call, x.segment(0, 6), due);
        Due.same(19, "count(7) of " + call, x.count(7), sinking > limit ? 1 : 0);
        Due.same(19, "count(3) of " + call, x.count(3), sinking);
        x.dropTrain(0);
        Scene.run(x, due - 1);
        if (due > 0) {
            Due.same(15, "segment(0, 6) a tick before, of " + call, x.segment(0, 6), 1);
            Due.same(19, "count(7) a tick before, of " + call, x.count(7), 1);
            x.run(1);
        }
        Due.same(15, "segment(0, 6) then, of " + call, x.segment(0, 6), 0);
        Due.same(19, "count(7) then, of " + call, x.count(7), 0);
    }

    /** "the train": 0 to the last one that is there. */
    private static void firstAndLastTrain() {
        PeatRailway x = new PeatRailway();
        for (int trains = 0; trains <= 4; trains++) {
            Due.same(19, "count(1)", x.count(1), trains);
            for (int what = -1; what <= 10; what++) {
                Due.same(16, "train(-1, " + what + ")", x.train(-1, what), BAD);
                Due.same(16, "train(" + trains + ", " + what + ")", x.train(trains, what), BAD);
            }
            Due.same(17, "why(-1)", x.why(-1), BAD);
            Due.same(17, "why(" + trains + ")", x.why(trains), BAD);
            for (int t = 0; t < trains; t++) {
                int[] due = {6 - t, 20 - t, 0, 0, 0, 0, 0, 0, 0, 16 - 2 * t};
                for (int what = 0; what < due.length; what++) {
                    Due.same(16, "train(" + t + ", " + what + ")", x.train(t, what), due[what]);
                }
                Due.same(16, "train(" + t + ", -1)", x.train(t, -1), BAD);
                Due.same(16, "train(" + t + ", 10)", x.train(t, 10), BAD);
                Due.same(17, "why(" + t + ")", x.why(t), 1);
            }
            x.addTrain(6 - trains, 20 - trains);
        }
    }

    /** "what was dug is always the sum of the others" */
    private static void accountsOfNothingAndOfAll() {
        PeatRailway x = Due.withTrack("0,0,0");
        accountsAre(x, 0, 0, 0, 0, 0);
        x.dig(1);
        accountsAre(x, 1, 1, 0, 0, 0);
        x.addTrain(1, 1);
        x.run(1);
        accountsAre(x, 1, 0, 1, 0, 0);
        x.run(5);
        accountsAre(x, 1, 0, 1, 0, 0);
        x.run(1);
        accountsAre(x, 1, 0, 0, 1, 0);
        Due.same(9, "dropTrain(0) of an empty one", x.dropTrain(0), 0);
        accountsAre(x, 1, 0, 0, 1, 0);
        x.dig(120);
        x.addTrain(6, 20);
        x.run(1);
        accountsAre(x, 121, 0, 120, 1, 0);
        Due.same(9, "dropTrain(0) of a loaded one", x.dropTrain(0), 120);
        accountsAre(x, 121, 0, 0, 1, 120);
    }

    private static void accountsAre(PeatRailway x, int... due) {
        for (int what = 0; what <= 4; what++) {
            Due.same(18, "account(" + what + ")", x.account(what), due[what]);
        }
        Due.same(18, "account(-1)", x.account(-1), BAD);
        Due.same(18, "account(5)", x.account(5), BAD);
    }

    /** "the segments whose sinking is above the limit, as a bit mask": the last one of twelve. */
    private static void masksOfTheSegments() {
        PeatRailway x = Due.withTrack("0,0,0,0,0,0,0,0,0,0,0,1");
        x.dig(120);
        x.addTrain(6, 20);
        x.run(29);
        // A weight of 136 has been there for two ticks: 2 * 13.
        Due.same(15, "segment(11, 2)", x.segment(11, 2), 26);
        x.set(0, 26);
        Due.same(19, "count(7) at the limit", x.count(7), 0);
        x.set(0, 25);
        Due.same(19, "count(7) above the limit", x.count(7), 1 << 11);
        Due.same(19, "count(3) of the last segment", x.count(3), 26);
    }

    /** "the sum of the waits of all trains that are there" */
    private static void sumsOfTheTrainsThatAreThere() {
        PeatRailway x = new PeatRailway();
        Due.same(19, "count(4) without trains", x.count(4), 0);
        x.addTrain(1, 1);
        x.run(3);
        x.addTrain(1, 1);
        x.run(2);
        Due.same(19, "count(4)", x.count(4), 7);
        x.dropTrain(0);
        Due.same(19, "count(4) without the first one", x.count(4), 2);
        x.dropTrain(0);
        Due.same(19, "count(4) without any", x.count(4), 0);
        Due.same(19, "count(2)", x.count(2), 5);
    }

    private static void settingsAtTheirEnds() {
        int[][] ends = {{10, 900}, {1, 50}, {0, 2}};
        for (int s = 0; s < 3; s++) {
            PeatRailway x = new PeatRailway();
            for (int value : ends[s]) {
                x.set(s, value);
                Due.same(20, "setting(" + s + ")", x.setting(s), value);
                x.set(s, ends[s][0] - 1);
                x.set(s, ends[s][1] + 1);
                Due.same(20, "setting(" + s + ") behind errors", x.setting(s), value);
            }
            Due.same(6, "set() " + s + " is a change twice", x.count(5), 2);
        }
    }

    // ---- ahead

    /** "ticks: 1 to 200" */
    private static void ifRunOfOneTickAndOf200() {
        for (int ticks : new int[] {1, 2, 199, 200}) {
            for (int kind = 0; kind < 2; kind++) {
                PeatRailway x = kind == 0 ? Scene.some() : Scene.full();
                PeatRailway y = kind == 0 ? Scene.some() : Scene.full();
                int[] due = {-y.account(3), 0, -y.count(4), 0};
                for (int i = 0; i < ticks; i++) {
                    y.run(1);
                    due[3] = Math.max(due[3], y.count(3));
                }
                due[0] += y.account(3);
                due[1] = y.count(3);
                due[2] += y.count(4);
                for (int what = 0; what < 4; what++) {
                    Due.same(21, "ifRun(" + ticks + ", " + what + ")", x.ifRun(ticks, what),
                            due[what]);
                }
                Due.same(11, "run(" + ticks + ")", x.run(ticks), due[0]);
            }
        }
    }

    /** "(those of now do not count)"; what is delivered in just the last tick does. */
    private static void ifRunJustBeforeAndBehind() {
        PeatRailway x = Scene.sunkBy(100);
        x.dropTrain(0);
        Due.same(21, "ifRun(1, 1)", x.ifRun(1, 1), 95);
        Due.same(21, "ifRun(1, 3)", x.ifRun(1, 3), 95);
        Due.same(21, "ifRun(20, 1)", x.ifRun(20, 1), 0);
        Due.same(21, "ifRun(20, 3)", x.ifRun(20, 3), 95);
        Due.same(21, "ifRun(1, 2) without trains", x.ifRun(1, 2), 0);
        x.run(20);
        Due.same(21, "ifRun(1, 3), all is risen", x.ifRun(1, 3), 0);
        PeatRailway y = Due.withTrack("0,0,0");
        y.dig(20);
        y.addTrain(1, 20);
        Due.same(21, "ifRun(6, 0)", y.ifRun(6, 0), 0);
        Due.same(21, "ifRun(7, 0)", y.ifRun(7, 0), 20);
        Due.same(21, "ifRun(12, 2)", y.ifRun(12, 2), 0);
        Due.same(21, "ifRun(13, 2)", y.ifRun(13, 2), 1);
        y.run(7);
        Due.same(21, "ifRun(200, 0), what was delivered before", y.ifRun(200, 0), 0);
        y.run(10);
        Due.same(21, "ifRun(1, 2), what was waited before", y.ifRun(1, 2), 1);
    }

    /** One train of a wagon on 0,0,0 delivers 20 in the ticks 7, 19, 31, .., 12 apart. */
    private static PeatRailway everyTwelve() {
        PeatRailway x = Due.withTrack("0,0,0");
        x.dig(1000);
        x.addTrain(1, 20);
        return x;
    }

    /** "the least number of ticks .. in which at least the amount is delivered" */
    private static void ticksForJustEnough() {
        PeatRailway x = everyTwelve();
        int[][] due = {{1, 7}, {19, 7}, {20, 7}, {21, 19}, {39, 19}, {40, 19}, {41, 31}};
        for (int[] d : due) {
            Due.same(22, "ticksFor(" + d[0] + ")", x.ticksFor(d[0]), d[1]);
        }
        x.run(6);
        Due.same(22, "ticksFor(20), in the next tick", x.ticksFor(20), 1);
        Due.same(22, "ticksFor(21)", x.ticksFor(21), 13);
        x.run(1);
        Due.same(22, "ticksFor(1), what was delivered before", x.ticksFor(1), 12);
    }

    /** "up to 500" */
    private static void ticksForUpTo500() {
        // The unloading k from now on, of 0 on, is in the tick 7 + 12 * k - (the ticks before).
        PeatRailway x = everyTwelve();
        x.run(10);
        Due.same(22, "ticksFor(820)", x.ticksFor(820), 489);
        Due.same(22, "ticksFor(840), in the tick 501", x.ticksFor(840), NONE);
        x.run(1);
        Due.same(22, "ticksFor(840), in the tick 500", x.ticksFor(840), 500);
        Due.same(22, "ticksFor(841), in the tick 512", x.ticksFor(841), NONE);
        x.run(1);
        Due.same(22, "ticksFor(840), in the tick 499", x.ticksFor(840), 499);
    }

    /** "amount: 1 to 1000"; 120 in the ticks 12, 34, 56, .. */
    private static void ticksForTheGreatestAmount() {
        PeatRailway x = Due.withTrack("0,0,0");
        x.dig(1000);
        x.addTrain(6, 20);
        Due.same(22, "ticksFor(961) of a stock of 1000", x.ticksFor(961), NONE);
        x.dig(1000);
        Due.same(22, "ticksFor(960)", x.ticksFor(960), 12 + 7 * 22);
        Due.same(22, "ticksFor(961)", x.ticksFor(961), 12 + 8 * 22);
        Due.same(22, "ticksFor(999)", x.ticksFor(999), 12 + 8 * 22);
        Due.same(22, "ticksFor(1000)", x.ticksFor(1000), 12 + 8 * 22);
        Due.same(22, "ticksFor(1001)", x.ticksFor(1001), BAD);
    }

    /**
     * "of several the lowest one": at first no rule delivers anything, then 1 and 2 as much as one
     * another, then all. Train 0 is about to come down to the bog, and train 1 to go up from it.
     */
    private static void bestRuleIsTheLowest() {
        int[] due = {0, 0, 0, 0, 1, 0, 0};
        for (int rule = 0; rule <= 2; rule++) {
            PeatRailway x = Due.withTrack("0,0,0");
            x.set(2, rule);
            x.addTrain(1, 1);
            x.addTrain(1, 20);
            x.dig(1);
            x.run(8);
            x.dig(20);
            x.run(2);
            Due.holds(23, "the places", Scene.places(x).equals("1d 0u"));
            for (int ticks = 1; ticks <= 7; ticks++) {
                Due.same(23, "bestRule(" + ticks + ")", x.bestRule(ticks), due[ticks - 1]);
            }
            Due.same(23, "bestRule(200)", x.bestRule(200), 0);
            Due.same(23, "the rule is still", x.setting(2), rule);
            rulesDeliver(x, 5, 0, 20, 20);
        }
        Due.same(23, "bestRule(1) of a new one", new PeatRailway().bestRule(1), 0);
        Due.same(23, "bestRule(200) of a new one", new PeatRailway().bestRule(200), 0);
    }

    /** Train 0 goes up to the works, from which the trains 1 and 2 want to come down. */
    private static void bestRuleIsTheLastOne() {
        PeatRailway x = Due.withTrack("0,0,0");
        x.set(2, 2);
        x.addTrain(1, 1);
        x.dig(6);
        x.run(7);
        x.addTrain(1, 2);
        x.addTrain(2, 2);
        x.run(9);
        for (int rule = 0; rule <= 2; rule++) {
            x.set(2, rule);
            Due.same(23, "bestRule(11) under rule " + rule, x.bestRule(11), 2);
        }
        rulesDeliver(x, 11, 1, 1, 3);
    }

    private static void rulesDeliver(PeatRailway x, int ticks, int... due) {
        for (int rule = 0; rule <= 2; rule++) {
            x.set(2, rule);
            Due.same(23, "ifRun() by rule " + rule, x.ifRun(ticks, 0), due[rule]);
            Due.same(23, "run() by rule " + rule, x.run(ticks), due[rule]);
            x.undo();
        }
    }

    /** "of several the least one" */
    private static void bestLoadIsTheLeast() {
        PeatRailway x = everyTwelve();
        Due.same(24, "bestLoad(0, 6), none delivers", x.bestLoad(0, 6), 1);
        Due.same(24, "bestLoad(0, 7), in the last tick", x.bestLoad(0, 7), 20);
        x.run(1);
        Due.same(24, "bestLoad(0, 17), loaded before", x.bestLoad(0, 17), 1);
        Due.same(24, "bestLoad(0, 18), loaded again", x.bestLoad(0, 18), 20);
        PeatRailway y = Due.withTrack("0,0,0");
        y.addTrain(1, 3);
        y.dig(12);
        // 12 at once, or 6 twice, or 4 three times; 5 twice are 10 only.
        Due.same(24, "bestLoad(0, 18)", y.bestLoad(0, 18), 12);
        Due.same(24, "bestLoad(0, 19)", y.bestLoad(0, 19), 6);
        Due.same(24, "bestLoad(0, 30)", y.bestLoad(0, 30), 6);
        Due.same(24, "bestLoad(0, 31)", y.bestLoad(0, 31), 4);
        Due.same(24, "bestLoad(0, 139)", y.bestLoad(0, 139), 1);
        Due.same(24, "bestLoad(0, 138)", y.bestLoad(0, 138), 2);
        Due.same(24, "the load is still", y.train(0, 1), 3);
    }

    /** "the load, 1 to 20", of the first and of the last train */
    private static void bestLoadAtTheEnds() {
        for (int stock = 17; stock <= 22; stock++) {
            PeatRailway x = Due.withTrack("0,0,0");
            x.addTrain(1, 9);
            x.dig(stock);
            Due.same(24, "bestLoad(0, 7) of " + stock, x.bestLoad(0, 7), Math.min(stock, 20));
        }
        PeatRailway x = Due.withTrack("0,0,0");
        for (int train = 0; train < 4; train++) {
            x.addTrain(1, 20);
        }
        x.dig(19);
        for (int train = 0; train < 4; train++) {
            Due.same(24, "bestLoad(" + train + ", 7)", x.bestLoad(train, 7), 19);
        }
        Due.same(24, "bestLoad(4, 7)", x.bestLoad(4, 7), BAD);
        Due.same(24, "bestLoad(-1, 7)", x.bestLoad(-1, 7), BAD);
        x.dropTrain(3);
        Due.same(24, "bestLoad(3, 7) of three", x.bestLoad(3, 7), BAD);
        Due.same(24, "bestLoad(2, 7) of three", x.bestLoad(2, 7), 19);
    }

    // ---- all together

    /** "the sum of the sinkings of all segments, as a double, divided by their number" */
    private static void meanSinkingIsNotRounded() {
        Due.sameDouble(25, "of a new one", new PeatRailway().meanSinking(), 0.0);
        for (int sinking : new int[] {0, 1, 2, 3, 4, 500, 997, 998, 999}) {
            Due.sameDouble(25, "of " + sinking + ", 0, 0", Scene.sunkBy(sinking).meanSinking(),
                    sinking / 3.0);
        }
        PeatRailway x = Due.withTrack("1,0,0,0,0,0,0,0,0,0,0,0");
        x.addTrain(4, 20);
        for (int sinking = 1; sinking <= 25; sinking++) {
            x.run(1);
            Due.sameDouble(25, "of " + sinking + " and eleven 0", x.meanSinking(), sinking / 12.0);
        }
    }

    /** "The hash starts as 2069"; "the length of the text and each of its character codes" */
    private static void digestOfTheEnds() {
        PeatRailway x = new PeatRailway();
        String text = "";
        for (int length = 0; length <= 40; length++) {
            Due.same(26, "digest() of " + length + " signs", x.digest(),
                    DigestTest.digestOf(x, text));
            x.type(126 - length);
            text += (char) (126 - length);
        }
        PeatRailway some = Scene.some();
        Due.same(26, "digest() of some", some.digest(), DigestTest.digestOf(some, "1,2"));
        PeatRailway full = Scene.full();
        Due.same(26, "digest() of all full", full.digest(),
                DigestTest.digestOf(full, Scene.LONGEST + "?0p,~"));
        for (int sinking : new int[] {1, 2, 3, 4, 6, 12, 998, 999}) {
            PeatRailway y = Scene.sunkBy(sinking);
            Due.same(26, "digest() of " + sinking, y.digest(), DigestTest.digestOf(y, ""));
        }
    }
}
