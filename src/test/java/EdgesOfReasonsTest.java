/**
 * The reasons to wait 2 to 5 of the description, each just before and just behind its edge.
 *
 * <p>A row tells a script of Scene, where the trains are behind it ("3d 0u": train 0 is in the
 * segment 3 and goes down, train 1 is in the segment 0 and goes up), and the reason that is due for
 * a train. By the rule 2 train 0 has its turn before all others, so that its reason in the next
 * tick is what why tells before.
 */
public final class EdgesOfReasonsTest {
    /** Usual segments 1 to 3 between the passing places 0 and 4; the works are 5. */
    private static final String LOW = "0,0,0,0,0p,0";
    /** The same, and 5 to 7 between the passing places 4 and 8. */
    private static final String LONG = "0,0,0,0,0p,0,0,0,0";
    /** Passing places beside one another. */
    private static final String WIDE = "0,0p,0p,0";
    private static final String MIDDLE = "0,0,0p,0,0";

    public static void main(String[] args) {
        noneAtTheEnds();
        roomInAUsualSegment();
        roomInAPassingPlace();
        roomAtTheEnds();
        oncomingOnTheWayUp();
        oncomingOnTheWayDown();
        oncomingElsewhere();
        crowdedOnTheWayUp();
        crowdedOnTheWayDown();
        neverCrowdedAtTheEnds();
        outsideOfPassingPlaces();
        besidePassingPlaces();
        roomComesBeforeOncoming();
        roomComesBeforeCrowded();
        oncomingComesBeforeCrowded();
        sinkingComesFirst();
        asIfTheRestWas0();
        Due.end();
    }

    private static void reason(String track, String script, String places, int train, int due) {
        PeatRailway x = Scene.of(track, script);
        String call = track + " behind " + script + ": " + Scene.places(x);
        Due.holds(17, call + " is " + places, Scene.places(x).equals(places));
        Due.same(17, call + ", why(" + train + ")", x.why(train), due);
        if (train == 0 && x.train(0, 5) == 0) {
            x.set(2, 2);
            nextTick(x, call, due);
        }
    }

    private static void nextTick(PeatRailway x, String call, int due) {
        int waits = x.train(0, 7);
        int before = x.train(0, 3);
        int beyond = x.train(0, 4) == 1 ? before + 1 : before - 1;
        x.run(1);
        Due.same(11, call + ", train(0, 6) in the next tick", x.train(0, 6), due);
        Due.same(11, call + ", train(0, 7) behind it", x.train(0, 7), due == 0 ? waits : waits + 1);
        Due.same(11, call + ", train(0, 3) behind it", x.train(0, 3), due == 0 ? beyond : before);
    }

    /** Unloading and loading come first; the reasons 2 to 5 are of those that go on. */
    private static void noneAtTheEnds() {
        PeatRailway x = Due.withTrack("9,0,9");
        x.set(0, 10);
        x.set(1, 1);
        x.dig(1);
        x.addTrain(1, 1);
        x.run(6);
        Due.same(17, "the works are sunk", x.count(7), 0b100);
        Due.same(17, "why(0), about to unload", x.why(0), 0);
        x.run(8);
        Due.same(17, "the bog is sunk, too", x.count(7), 0b101);
        Due.same(17, "why(0), about to load", x.why(0), 1);
        Due.same(17, "train(0, 6)", x.train(0, 6), 1);
        x.dig(1);
        Due.same(17, "why(0), about to load, with peat", x.why(0), 0);
        x.run(1);
        Due.same(17, "train(0, 6) behind loading", x.train(0, 6), 0);
        Due.same(17, "train(0, 2) behind loading", x.train(0, 2), 1);
    }

    // ---- "3: there is no room for another train in the next segment"

    /** "any other segment has room for 1" */
    private static void roomInAUsualSegment() {
        reason(LOW, "+1 2", "0u", 0, 0);
        reason(LOW, "+2 +1 3", "0u 1u", 0, 3);
        reason(LOW, "+1 4", "1u", 0, 0);
        reason(LOW, "+1 +3 8", "3u 2u", 1, 3);
        reason(LOW, "+1 8", "3u", 0, 0);
        reason(LOW, "+1 +1 11 9", "2d 3d", 1, 3);
        reason(MIDDLE, "+1 12", "4d", 0, 0);
        reason(MIDDLE, "+1 +5 12", "4d 3u", 0, 3);
        reason(MIDDLE, "+1 8 8", "2d", 0, 0);
        reason(MIDDLE, "+1 7 +6 9", "2d 1u", 0, 3);
    }

    /** "A passing place has room for 2 trains" */
    private static void roomInAPassingPlace() {
        reason(WIDE, "+2 3", "0u", 0, 0);
        reason(WIDE, "+2 +1 3", "0u 1u", 0, 0);
        reason(WIDE, "+6 +4 +5 7", "0u 1u 1u", 0, 3);
        reason(WIDE, "+1 +3 10 5 +1 3", "0u 1d 1u", 0, 3);
        reason(WIDE, "+1 10", "3d", 0, 0);
        reason(WIDE, "+1 +5 10", "3d 2u", 0, 0);
        reason(WIDE, "+1 +6 +6 11", "3d 2u 2u", 0, 3);
        reason(WIDE, "+3 +2 9 +1 5", "3d 2d 2u", 0, 3);
        reason(MIDDLE, "+5 8", "1u", 0, 0);
        reason(MIDDLE, "+1 9 +1 8 7", "1u 2d", 0, 0);
        reason(MIDDLE, "+1 11 +1 5 +4 10", "1u 2d 2u", 0, 3);
        reason(MIDDLE, "+1 5 9", "3d", 0, 0);
        reason(MIDDLE, "+1 8 +1 6", "3d 2u", 0, 0);
        reason(MIDDLE, "+1 8 +1 +1 8", "3d 2u 2u", 0, 3);
    }

    /** "but the first and the last segment have room for all" */
    private static void roomAtTheEnds() {
        reason(MIDDLE, "+1 9 9", "1d", 0, 0);
        reason(MIDDLE, "+1 9 9 +1 +1", "1d 0d 0d", 0, 0);
        reason(MIDDLE, "+1 9 9 +1 +1 +1", "1d 0d 0d 0d", 0, 0);
        reason(MIDDLE, "+1 9 6 +1 3 +1 +5", "1d 0u 0d 0d", 0, 0);
        reason(MIDDLE, "+1 8", "3u", 0, 0);
        reason(MIDDLE, "+3 +1 +1 8 5", "3u 4d 4d", 0, 0);
        reason(MIDDLE, "+6 +2 +3 +5 1 5 10", "3u 4d 4d 4d", 0, 0);
        reason(WIDE, "+2 +1 +1 +1 9", "2u 3d 3d 3u", 0, 0);
        reason(WIDE, "+2 +1 +1 +1 9 9", "1d 0u 0u 0d", 0, 0);
        PeatRailway x = new PeatRailway();
        for (int room = 4; room > 0; room--) {
            Due.same(15, "segment(0, 5)", x.segment(0, 5), room);
            Due.same(15, "segment(6, 5)", x.segment(6, 5), 4);
            x.addTrain(1, 1);
        }
        Due.same(15, "segment(0, 5) with 4 trains", x.segment(0, 5), 0);
    }

    // ---- "4: .. between this passing place and the next one .. a train .. in the other direction"

    private static void oncomingOnTheWayUp() {
        reason(LOW, "+1 11 +5 4", "4d 0u", 1, 0);
        reason(LOW, "+1 11 +5 6", "3d 0u", 1, 4);
        reason(LOW, "+1 +4 8 9 9", "0u 2d", 0, 4);
        reason(LOW, "+5 +3 6", "0u 1u", 0, 3);
        reason(LOW, "+6 +1 7", "0u 3u", 0, 0);
        reason(LONG, "+1 9 +3 12", "7d 4u", 1, 4);
        reason(LONG, "+1 7 +3 12", "8d 4u", 1, 0);
        reason(LONG, "+1 12 +1 +1 11", "6d 4u 4u", 1, 4);
    }

    private static void oncomingOnTheWayDown() {
        reason(LONG, "+1 9 +3 11", "8d 4u", 0, 0);
        reason(LONG, "+1 8 +2 12", "8d 5u", 0, 4);
        reason(LONG, "+1 +2 7 +1 +5 9 9", "8d 8d 8u 6u", 0, 4);
        reason(LONG, "+1 +6 9 11", "8d 7u", 0, 3);
        reason(LOW, "+1 9 7 +2", "4d 0d", 0, 0);
        reason(LOW, "+1 9 +4 7", "4d 1u", 0, 4);
        reason(LOW, "+1 8 +5 9", "4d 2u", 0, 4);
    }

    /** In the own passing place, in the next one, beyond it, and behind, none is oncoming. */
    private static void oncomingElsewhere() {
        reason(LOW, "+2 9 +1 9", "4d 4u", 0, 0);
        reason(LOW, "+1 +1 9 +4 5", "5d 5u 0u", 2, 0);
        reason(LOW, "+1 12 5", "3d", 0, 0);
        reason(LONG, "+1 11 +4 +5 9 +2", "8d 2u 1u 0d", 0, 0);
        reason(LONG, "+1 11 +3 9 8", "4d 5u", 0, 0);
        reason(LOW, "+1 +6 12 1 11 10", "4u 3d", 0, 0);
    }

    // ---- "5: .. together at least as many as there is room for in that passing place"

    private static void crowdedOnTheWayUp() {
        // In the next passing place, which is 4, none, one and two.
        reason(LOW, "+1 2", "0u", 0, 0);
        reason(LOW, "+3 8 +2 3", "4u 0u", 1, 0);
        reason(LOW, "+1 6 +1 6 +3 4", "4d 4u 0u", 2, 5);
        // On the way there none, one and two.
        reason(LOW, "+3 +1 +5 5", "0u 2u 0u", 0, 0);
        reason(LOW, "+5 +2 +4 9", "0u 3u 2u", 0, 5);
        reason(LOW, "+2 +1 +1 8", "0u 3u 2u", 0, 5);
        // One here and one there.
        reason(LOW, "+4 +4 +1 9", "2u 0u 4u", 1, 5);
        // Those in the works do not count, nor those in the own passing place.
        reason(LOW, "+6 +1 +3 11", "0u 5u 4u", 0, 0);
        reason(LOW, "+2 +2 +1 +1 11", "0u 0u 5u 4u", 0, 0);
        reason(LOW, "+2 +1 +1 4 +4 9", "0u 5d 5u 2u", 0, 0);
        reason(LOW, "+6 +1 7 +1 +1", "0u 3u 0d 0d", 0, 0);
    }

    private static void crowdedOnTheWayDown() {
        reason(LONG, "+1 11 9", "8d", 0, 0);
        reason(LONG, "+1 9 +3 11", "8d 4u", 0, 0);
        reason(LONG, "+6 +2 12 9 +1 9", "8d 4d 4u", 0, 5);
        reason(LONG, "+2 +1 12 12", "8d 6d", 0, 0);
        reason(LONG, "+1 +1 +1 12 8 9", "5d 6d 8d", 2, 5);
        reason(LONG, "+5 +3 +1 +1 12 9 12", "8d 8d 5d 6d", 0, 5);
        reason(LONG, "+2 +1 +3 11 8 +1 9", "8d 6d 8d 4u", 2, 5);
        reason(LONG, "+1 +1 11 +3 12", "6d 8d 4u", 1, 5);
        reason(LONG, "+1 11 +2 +1 +1 9", "8d 0u 4u 3u", 0, 0);
        reason(LONG, "+6 +6 +3 9 2 +1 12 9", "8d 8d 6d 8d", 0, 0);
        reason(LONG, "+1 +3 12 12 +6 +1", "6d 8d 0d 0d", 1, 0);
    }

    /** "(this never holds for the first and the last segment)" */
    private static void neverCrowdedAtTheEnds() {
        reason(LOW, "+1 9 7 +1 +3 +6", "4d 0d 0d 0d", 0, 0);
        reason(LOW, "+1 +3 8 12 +1 +1", "2d 4d 0d 0d", 1, 0);
        reason(LOW, "+4 +1 6 +1 +1 12 9", "1d 0d 2d 4d", 3, 0);
        reason(LONG, "+5 +1 +1 +4 9 12", "4u 8d 8d 6u", 0, 0);
        reason(LONG, "+3 +1 +1 10 9", "4u 8d 8u", 0, 0);
        reason("0,0,0", "+3 +6 +5 +4 11", "2d 0u 2d 2u", 1, 0);
        reason("0,0,0", "+1 8 +1 +2 +1", "2d 0d 0d 0d", 0, 0);
    }

    /** "it is in a passing place": on the way to a crowded one, a train goes on. */
    private static void outsideOfPassingPlaces() {
        reason(LOW, "+5 +1 +1 8 +1 9", "2u 4d 5d 4u", 0, 0);
        reason(LOW, "+6 +1 +2 +1 9 6", "1u 4d 5d 3u", 0, 0);
        reason("0,0,0,0p,0,0,0", "+1 9 +1 +1 9", "5d 3u 3u", 0, 0);
        reason(LONG, "+2 +1 12 5 +1 9", "7d 5d 4u", 0, 0);
    }

    /** "the next segment is none": to a passing place beside its own one, a train goes on. */
    private static void besidePassingPlaces() {
        reason(WIDE, "+1 4", "1u", 0, 0);
        reason(WIDE, "+3 +1 6", "1u 2u", 0, 0);
        reason(WIDE, "+1 +5 9 +1 11", "1u 2d 2d", 0, 3);
        reason(WIDE, "+1 +5 9 +6 11", "1u 2d 2u", 0, 3);
        reason(WIDE, "+1 12", "2d", 0, 0);
        reason(WIDE, "+2 5 +6 9", "2d 1u", 0, 0);
        reason(WIDE, "+1 9 +1 +1 4", "2d 1u 1u", 0, 3);
    }

    // ---- "the first one of the following that holds is its reason to wait"

    private static void roomComesBeforeOncoming() {
        reason(LOW, "+1 12 +5 9", "1d 0u", 1, 3);
        reason(LOW, "+1 +1 12 +6 9", "1d 2d 0u", 2, 3);
        reason(LOW, "+1 +5 9 +1 +2 10 11", "0u 1d 2d 3d", 0, 3);
        reason(LOW, "+2 9 +2 9", "4d 3u", 0, 3);
        reason(LOW, "+1 9 +1 +1 8", "4d 3u 2u", 0, 3);
    }

    private static void roomComesBeforeCrowded() {
        reason(LOW, "+6 +6 +1 9", "1u 0u 4u", 1, 3);
        reason(LOW, "+4 +5 +1 +5 11", "3u 0u 5u 1u", 1, 3);
        reason(LOW, "+1 +6 9 +3 +3 6", "4d 4u 1u 0u", 3, 3);
        reason(LONG, "+1 +1 12 +1 10", "7d 8d 4u", 1, 3);
        reason(LONG, "+1 +6 8 +3 12", "8d 7u 4u", 0, 3);
    }

    private static void oncomingComesBeforeCrowded() {
        reason(LOW, "+1 +1 +3 9 +6 8", "3d 4d 4u 0u", 3, 4);
        reason(LONG, "+1 +4 10 +6 9 +1 9", "4d 8d 5u 4u", 1, 4);
    }

    /** "2: the sinking of the next segment is above the limit" */
    private static void sinkingComesFirst() {
        String soft = "9,9,9p,9,9";
        String far = "0,9,9,9p,9,9,9,0";
        sinking(soft, "+6 +5 9", "0u 2u", 0);
        sinking(soft, "+1 +2 12", "4d 4u", 0);
        sinking(soft, "+1 8 +4 8", "2d 2u", 0);
        sinking(soft, "+6 +3 11", "2u 4u", 0);
        sinking(soft, "+6 8 11 9", "1d", 0);
        sinking(soft, "+5 +1 12", "3u 4d", 0);
        sinking(soft, "+4 +3 9", "1u 3u", 0);
        sinking(far, "+1 +5 9 11", "6d 7u", 0);
        sinking(far, "+5 +3 9", "1u 3u", 0);
        sinking(soft, "+4 +3 5", "0u 1u", 3);
        sinking(soft, "+1 +5 12", "4d 3u", 3);
        sinking(soft, "+1 7 +1 5 +4 12", "1u 2d 2u", 3);
        sinking(soft, "+1 9 +4 7", "2d 1u", 3);
        sinking(far, "+3 +1 +4 10 12 11 8", "0u 3u 2d", 4);
        sinking(far, "+1 +1 +2 9 9", "7d 7u 5u", 4);
        sinking(soft, "+1 +6 7 10 +4 8", "0u 2d 2u", 5);
        sinking(soft, "+2 +1 6 +6 10", "4d 2d 2u", 5);
    }

    /** Of train 0: the limit is the sinking of the next segment itself, and then one below. */
    private static void sinking(String track, String script, String places, int otherwise) {
        PeatRailway x = Scene.of(track, script);
        String call = track + " behind " + script + ": ";
        Due.holds(17, call + "the places are " + places, Scene.places(x).equals(places));
        Due.same(17, call + "the rest is 0", x.train(0, 5), 0);
        int next = x.train(0, 3) + (x.train(0, 4) == 1 ? 1 : -1);
        int sinking = x.segment(next, 2);
        x.set(2, 2);
        x.set(0, sinking - 1);
        Due.same(17, call + "why(0) above the limit", x.why(0), 2);
        nextTick(x, call + "above the limit", 2);
        x.undo();
        Due.same(6, call + "set()", x.set(0, sinking), sinking - 1);
        Due.same(17, call + "why(0) at the limit", x.why(0), otherwise);
        nextTick(x, call + "at the limit", otherwise);
    }

    /** "what would keep a train from going on now, if its rest was 0" */
    private static void asIfTheRestWas0() {
        restAbove0(LOW, "+4 4", 0, 0);
        restAbove0(LOW, "+1 6 9", 0, 0);
        restAbove0("9,9,9p,9,9", "+6 +6 +2 7 7 2 11", 0, 2);
        restAbove0("9,9,9p,9,9", "+6 +5 +4 11 +5 4 8", 3, 2);
        restAbove0(LOW, "+1 +6 4", 1, 3);
        restAbove0(LOW, "+1 +1 9 8", 1, 3);
        restAbove0(LOW, "+1 11 +6 6", 1, 4);
        restAbove0(LOW, "+2 9 +3 8", 0, 4);
        restAbove0(LOW, "+1 +1 6 +6 3", 2, 5);
        restAbove0(LONG, "+3 +1 11 +1 12", 0, 5);
        PeatRailway x = Due.withTrack("0,0,0");
        x.dig(1);
        x.addTrain(1, 1);
        x.run(11);
        restAbove0(x, "back at the bog, without peat", 0, 1);
    }

    private static void restAbove0(String track, String script, int train, int due) {
        restAbove0(Scene.of(track, script), track + " behind " + script, train, due);
    }

    private static void restAbove0(PeatRailway x, String call, int train, int due) {
        int rest = x.train(train, 5);
        int waits = x.train(train, 7);
        Due.holds(17, call + ": the rest is above 0", rest > 0);
        Due.same(17, call + ": why(" + train + ")", x.why(train), due);
        x.run(1);
        Due.same(11, call + ": the rest", x.train(train, 5), rest - 1);
        Due.same(11, call + ": the reason", x.train(train, 6), 0);
        Due.same(11, call + ": the waits", x.train(train, 7), waits);
    }
}
