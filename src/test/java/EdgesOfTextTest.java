/** "Input text." of the description, and the promises 1 to 5 at their edges. */
public final class EdgesOfTextTest {
    private static final int STATE = PeatRailway.STATE, FULL = PeatRailway.FULL,
            NONE = PeatRailway.NONE;

    public static void main(String[] args) {
        everySignAtEveryPlace();
        theFirstFaultIsTold();
        theEmptyText();
        endsBehindAComma();
        numbersOfSegments();
        everyBeginningOfATrack();
        fortyCharacters();
        fortyCharactersWithAFault();
        typeTakesEverySign();
        clearTellsTheLength();
        passingPlacesAtTheEnds();
        layTrackClearsTheText();
        layTrackLosesThePeat();
        layTrackLaysEverySoftness();
        newObjectHasAnEmptyText();
        Due.end();
    }

    /** A track of some segments, "1,2,3" or "1p,2p,3p". */
    private static String track(int segments, boolean passing) {
        StringBuilder text = new StringBuilder();
        for (int s = 1; s <= segments; s++) {
            text.append(s == 1 ? "" : ",").append(s % 10).append(passing ? "p" : "");
        }
        return text.toString();
    }

    private static PeatRailway typed(String text) {
        PeatRailway x = new PeatRailway();
        Due.type(x, text);
        return x;
    }

    private static void faultOf(String text, int due) {
        Due.same(4, "fault() of \"" + text + "\"", typed(text).fault(), due);
        Due.same(5, "layTrack() of \"" + text + "\"", typed(text).layTrack(),
                due == NONE ? text.split(",").length : STATE);
    }

    /**
     * "anything but a digit where a segment must begin; anything but "p" or "," behind a digit;
     * anything but "," behind "p"; the "," behind the 12th segment"
     */
    private static void everySignAtEveryPlace() {
        for (int segments = 1; segments <= 12; segments++) {
            for (boolean passing : new boolean[] {false, true}) {
                String begin = segments == 1 ? "" : track(segments - 1, passing) + ",";
                signsBehind(begin, "0123456789");
                signsBehind(begin + "0", segments == 12 ? "p" : "p,");
                signsBehind(begin + "9p", segments == 12 ? "" : ",");
            }
        }
    }

    /** Every sign that cannot stand is the fault; behind one that can, the "x" is. */
    private static void signsBehind(String begin, String allowed) {
        for (char sign = 32; sign <= 126; sign++) {
            boolean stands = allowed.indexOf(sign) >= 0;
            faultOf(begin + sign + "x", begin.length() + (stands ? 1 : 0));
            if (!stands) {
                faultOf(begin + sign, begin.length());
            }
        }
    }

    /** "Its fault is the index, from 0, of the first character that cannot stand there" */
    private static void theFirstFaultIsTold() {
        faultOf("x1,2,3", 0);
        faultOf("x,y,z", 0);
        faultOf("1x,2,3y", 1);
        faultOf("1,x2,3,y", 2);
        faultOf("1,2x", 3);
        faultOf("1,2,3px,", 6);
        faultOf("1,2,3,,", 6);
    }

    /** "The fault is the length of the text if the text .. is empty" */
    private static void theEmptyText() {
        faultOf("", 0);
        PeatRailway x = typed("1,2,3");
        Due.same(4, "fault() of 1,2,3", x.fault(), NONE);
        x.clear();
        Due.same(4, "fault() of a cleared text", x.fault(), 0);
    }

    /** "The fault is the length of the text if the text ends behind a ","" */
    private static void endsBehindAComma() {
        for (int segments = 1; segments <= 11; segments++) {
            faultOf(track(segments, false) + ",", 2 * segments);
            faultOf(track(segments, true) + ",", 3 * segments);
        }
        // The "," behind the 12th segment is a fault itself.
        faultOf(track(12, false) + ",", 23);
        faultOf(track(12, true) + ",", 35);
    }

    /** "or has fewer than 3 segments"; "3 to 12 segments"; "the "," behind the 12th segment" */
    private static void numbersOfSegments() {
        faultOf(track(1, false), 1);
        faultOf(track(1, true), 2);
        faultOf(track(2, false), 3);
        faultOf(track(2, true), 5);
        for (int segments = 3; segments <= 12; segments++) {
            faultOf(track(segments, false), NONE);
            faultOf(track(segments, true), NONE);
        }
        faultOf(track(13, false), 23);
        faultOf(track(13, true), 35);
    }

    /** While a track is typed, the text has a fault at its end, or none. */
    private static void everyBeginningOfATrack() {
        PeatRailway x = new PeatRailway();
        String text = "0p,4,4,2p,4,4,0p";
        int[] due = {1, 2, 3, 4, 5, -1, 7, -1, -1, 10, -1, 12, -1, 14, -1, -1};
        for (int i = 0; i < text.length(); i++) {
            Due.same(2, "type(" + text.charAt(i) + ")", x.type(text.charAt(i)), i + 1);
            Due.same(4, "fault() of " + (i + 1) + " signs", x.fault(), due[i]);
        }
    }

    /** "The text has at most 40 characters." */
    private static void fortyCharacters() {
        PeatRailway x = new PeatRailway();
        for (int length = 1; length <= 40; length++) {
            Due.same(2, "type to " + (length - 1), x.type('p'), length);
        }
        Due.same(2, "type to 40", x.type('p'), FULL);
        Due.same(2, "type to 40 again", x.type('0'), FULL);
        Due.same(3, "clear() of 40", x.clear(), 40);
        Due.same(3, "clear() behind clear()", x.clear(), 0);
        for (int length = 1; length <= 40; length++) {
            Due.same(2, "type to " + (length - 1) + " again", x.type('0'), length);
        }
        Due.same(2, "type to 40 again", x.type('0'), FULL);
        Due.same(4, "fault() of forty digits", x.fault(), 1);
    }

    /** The last place at which a fault can be is 35, behind the longest track. */
    private static void fortyCharactersWithAFault() {
        for (int at = 0; at <= 35; at++) {
            faultOf(Scene.LONGEST.substring(0, at) + "?".repeat(40 - at), at);
        }
        faultOf(Scene.LONGEST, NONE);
        faultOf(Scene.LONGEST + " ", 35);
    }

    /** "code: the character code, 32 to 126"; each of them is in the digest. */
    private static void typeTakesEverySign() {
        for (int code = 32; code <= 126; code++) {
            PeatRailway x = new PeatRailway();
            long hash = x.digest();
            Due.same(2, "type(" + code + ")", x.type(code), 1);
            // The digest of an empty text ends with its length, 0.
            Due.same(26, "digest() of the text " + (char) code, x.digest(),
                    31 * (hash + 1) + code);
        }
    }

    /** "Returns the length that it had." */
    private static void clearTellsTheLength() {
        for (int length = 0; length <= 40; length++) {
            PeatRailway x = typed("~".repeat(length));
            Due.same(3, "clear() of " + length, x.clear(), length);
            Twin.alike(3, "behind clear() of " + length, x, new PeatRailway());
        }
    }

    /** ""p" behind the first or the last digit changes nothing." */
    private static void passingPlacesAtTheEnds() {
        for (String between : new String[] {",4,", ",4p,", ",1,2p,3,4p,5,"}) {
            for (String text : new String[] {"7p" + between + "6", "7" + between + "6p",
                    "7p" + between + "6p"}) {
                Twin.alike(5, "with the track " + text, Scene.of(text, "+1 +2 +6 +3 50"),
                        Scene.of("7" + between + "6", "+1 +2 +6 +3 50"));
            }
        }
    }

    /** "and clears the text"; the history has the state before, the text is not of it. */
    private static void layTrackClearsTheText() {
        PeatRailway x = Scene.some();
        x.clear();
        Due.type(x, "9,8p,7");
        Due.same(5, "layTrack()", x.layTrack(), 3);
        Due.same(5, "layTrack() is one change", x.count(5), 7);
        Due.same(5, "layTrack() of the cleared text", x.layTrack(), STATE);
        Due.same(5, "the text behind layTrack()", x.clear(), 0);
        PeatRailway y = Scene.some();
        y.clear();
        Due.same(5, "undo()", x.undo(), 6);
        Twin.alike(5, "behind layTrack() and undo()", x, y);
    }

    /** "The trains are gone, with the peat in them, which counts as lost; .. all counts stay." */
    private static void layTrackLosesThePeat() {
        for (String track : new String[] {"0,0,0", "9,9p,9,9", LONGEST_PLAIN}) {
            PeatRailway x = Scene.full();
            x.clear();
            Due.type(x, track);
            int aboard = x.account(2);
            int[] due = {x.account(0), x.account(1), 0, x.account(3), x.account(4) + aboard};
            Due.holds(5, "there is peat in trains", aboard > 0);
            int clock = x.count(2);
            x.layTrack();
            for (int what = 0; what < 5; what++) {
                Due.same(5, "account(" + what + ") on " + track, x.account(what), due[what]);
            }
            Due.same(5, "trains on " + track, x.count(1), 0);
            Due.same(5, "clock on " + track, x.count(2), clock);
            Due.same(5, "sinking on " + track, x.count(3), 0);
            Due.same(5, "history on " + track, x.count(5), 8);
            Due.same(5, "images on " + track, x.count(6), 3);
            int[] settings = {60, 2, 1};
            for (int s = 0; s < 3; s++) {
                Due.same(5, "setting(" + s + ") on " + track, x.setting(s), settings[s]);
            }
            Due.same(5, "the first train on " + track, x.addTrain(6, 20), 0);
        }
    }

    private static final String LONGEST_PLAIN = "0,1,2,3,4,5,6,7,8,9,0,1";

    /** "Each segment has a softness, 0 to 9"; "at first 0": a sinking of 0 everywhere. */
    private static void layTrackLaysEverySoftness() {
        PeatRailway x = Due.withTrack("9,9,9,9,9,9,9,9,9,9,9,9");
        x.addTrain(6, 20);
        x.run(50);
        Due.type(x, Scene.LONGEST);
        Due.same(5, "layTrack() of the longest one", x.layTrack(), 12);
        for (int s = 0; s < 12; s++) {
            Due.same(5, "softness of " + s, x.segment(s, 0), s % 10);
            Due.same(5, "passing place " + s, x.segment(s, 1), 1);
            Due.same(5, "sinking of " + s, x.segment(s, 2), 0);
            Due.same(5, "room of " + s, x.segment(s, 5), s == 0 || s == 11 ? 4 : 2);
        }
        Due.type(x, LONGEST_PLAIN);
        x.layTrack();
        for (int s = 0; s < 12; s++) {
            Due.same(5, "passing place " + s, x.segment(s, 1), s == 0 || s == 11 ? 1 : 0);
            Due.same(5, "room of " + s, x.segment(s, 5), s == 0 || s == 11 ? 4 : 1);
        }
    }

    /** "the text is empty, and the images keep nothing"; the track is as if it had been laid. */
    private static void newObjectHasAnEmptyText() {
        Twin.sameState(1, "of a new one", Twin.state(new PeatRailway()),
                Twin.state(Due.withTrack("0p,4,4,2p,4,4,0p")));
        Due.same(1, "clear() of a new one", new PeatRailway().clear(), 0);
        Due.same(1, "count(6) of a new one", new PeatRailway().count(6), 0);
        Due.same(1, "undo() of a new one", new PeatRailway().undo(), STATE);
    }
}
