/** Promises 1 to 5: a new object, the text and the track in it. */
public final class TextTest {
    private static final int BAD = PeatRailway.BAD, STATE = PeatRailway.STATE,
            FULL = PeatRailway.FULL, NONE = PeatRailway.NONE;

    public static void main(String[] args) {
        newObject();
        type();
        clear();
        fault();
        layTrack();
        layTrackKeepsTheRest();
        Due.end();
    }

    private static void newObject() {
        PeatRailway x = new PeatRailway();
        int[] softness = {0, 4, 4, 2, 4, 4, 0};
        int[] passing = {1, 0, 0, 1, 0, 0, 1};
        int[] room = {4, 1, 1, 2, 1, 1, 4};
        Due.same(1, "count(0)", x.count(0), 7);
        for (int s = 0; s < 7; s++) {
            Due.same(1, "segment(" + s + ", 0)", x.segment(s, 0), softness[s]);
            Due.same(1, "segment(" + s + ", 1)", x.segment(s, 1), passing[s]);
            Due.same(1, "segment(" + s + ", 2)", x.segment(s, 2), 0);
            Due.same(1, "segment(" + s + ", 5)", x.segment(s, 5), room[s]);
        }
        Due.same(1, "segment(7, 0)", x.segment(7, 0), BAD);
        for (int what = 1; what < 8; what++) {
            Due.same(1, "count(" + what + ")", x.count(what), 0);
        }
        for (int what = 0; what < 5; what++) {
            Due.same(1, "account(" + what + ")", x.account(what), 0);
        }
        Due.same(1, "setting(0)", x.setting(0), 300);
        Due.same(1, "setting(1)", x.setting(1), 5);
        Due.same(1, "setting(2)", x.setting(2), 0);
        Due.same(1, "back(0)", x.back(0), STATE);
        Due.same(1, "back(1)", x.back(1), STATE);
        Due.same(1, "undo()", x.undo(), STATE);
        Due.same(1, "clear()", x.clear(), 0);
        Due.same(1, "train(0, 0)", x.train(0, 0), BAD);
    }

    private static void type() {
        PeatRailway x = new PeatRailway();
        Due.same(2, "type(31)", x.type(31), BAD);
        Due.same(2, "type(127)", x.type(127), BAD);
        Due.same(2, "type(-1)", x.type(-1), BAD);
        Due.same(2, "type(48 + 65536)", x.type(48 + 65536), BAD);
        Due.same(2, "type(least)", x.type(Integer.MIN_VALUE), BAD);
        Due.same(2, "type(32)", x.type(32), 1);
        Due.same(2, "type(126)", x.type(126), 2);
        for (int length = 3; length <= 40; length++) {
            Due.same(2, "type at " + length, x.type('0'), length);
        }
        Due.same(2, "type into a full text", x.type('0'), FULL);
        Due.same(2, "type of no character into a full text", x.type(31), BAD);
        Due.same(2, "clear()", x.clear(), 40);
        Due.same(2, "type is no change", x.count(5), 0);
    }

    private static void clear() {
        PeatRailway x = new PeatRailway();
        Due.same(3, "clear() of nothing", x.clear(), 0);
        Due.type(x, "1,2,3");
        Due.same(3, "clear()", x.clear(), 5);
        Due.same(3, "clear() again", x.clear(), 0);
        Due.same(3, "fault() of nothing", x.fault(), 0);
        Due.same(3, "type behind clear", x.type('7'), 1);
        Due.same(3, "clear is no change", x.count(5), 0);
    }

    private static void fault() {
        String[] without = {
            "0,0,0", "9p,9p,9p", "0,1p,2", "0p,4,4,2p,4,4,0p", "1,2,3,4,5,6,7,8,9,0,1,2",
            "1p,2p,3p,4p,5p,6p,7p,8p,9p,0p,1p,2p", "1,2,3,4,5,6,7,8,9,0,1,2p"
        };
        for (String text : without) {
            faultOf(text, NONE);
        }
        faultOf("", 0);
        faultOf("0", 1);
        faultOf("0p", 2);
        faultOf("0,", 2);
        faultOf("0,0", 3);
        faultOf("0,0p", 4);
        faultOf("0,0,", 4);
        faultOf("0,0,0,", 6);
        faultOf("0p,0p,0p,", 9);
        faultOf("p", 0);
        faultOf(",", 0);
        faultOf(" ", 0);
        faultOf(" 0,0,0", 0);
        faultOf("a,0,0", 0);
        faultOf("/,0,0", 0);
        faultOf(":,0,0", 0);
        faultOf("0,p", 2);
        faultOf("0,,0", 2);
        faultOf("00,0,0", 1);
        faultOf("0,0,00", 5);
        faultOf("0P,0,0", 1);
        faultOf("0,0,0 ", 5);
        faultOf("0,0,0q", 5);
        faultOf("0p0,0,0", 2);
        faultOf("0pp,0,0", 2);
        faultOf("0,0,0pp", 6);
        faultOf("0,0,0p ", 6);
        faultOf("1,2,3,4,5,6,7,8,9,0,1,2,", 23);
        faultOf("1,2,3,4,5,6,7,8,9,0,1,2,3", 23);
        faultOf("1,2,3,4,5,6,7,8,9,0,1,2p,", 24);
        faultOf("1p,2p,3p,4p,5p,6p,7p,8p,9p,0p,1p,2p,,,,,", 35);
        faultOf("1,2,3,4,5,6,7,8,9,0,1,2x", 23);
        faultOf("1,2,3,4,5,6,7,8,9,0,1,", 22);
    }

    private static void faultOf(String text, int due) {
        PeatRailway x = new PeatRailway();
        Due.type(x, text);
        Due.same(4, "fault() of \"" + text + "\"", x.fault(), due);
        Due.same(4, "fault() again of \"" + text + "\"", x.fault(), due);
        Due.same(4, "the text behind fault() of \"" + text + "\"", x.clear(), text.length());
        Due.same(4, "fault is no change", x.count(5), 0);
        Due.type(x, text);
        if (due == NONE) {
            Due.same(5, "layTrack() of \"" + text + "\"", x.layTrack(), text.split(",").length);
            Due.same(5, "the text behind layTrack() of \"" + text + "\"", x.clear(), 0);
            Due.same(5, "layTrack is a change", x.count(5), 1);
            sameTrack(x, text);
        } else {
            Due.same(5, "layTrack() of \"" + text + "\"", x.layTrack(), STATE);
            Due.same(5, "the text behind layTrack() of \"" + text + "\"", x.clear(),
                    text.length());
            Due.same(5, "an error is no change", x.count(5), 0);
            sameTrack(x, "0p,4,4,2p,4,4,0p");
        }
    }

    private static void sameTrack(PeatRailway x, String text) {
        String[] parts = text.split(",");
        Due.same(5, "segments of \"" + text + "\"", x.count(0), parts.length);
        for (int s = 0; s < parts.length; s++) {
            boolean end = s == 0 || s == parts.length - 1;
            boolean passing = end || parts[s].length() == 2;
            Due.same(5, "softness " + s + " of \"" + text + "\"", x.segment(s, 0),
                    parts[s].charAt(0) - '0');
            Due.same(5, "passing place " + s + " of \"" + text + "\"", x.segment(s, 1),
                    passing ? 1 : 0);
            Due.same(5, "room " + s + " of \"" + text + "\"", x.segment(s, 5),
                    end ? 4 : passing ? 2 : 1);
        }
    }

    private static void layTrack() {
        PeatRailway x = new PeatRailway();
        Due.same(5, "layTrack() of nothing", x.layTrack(), STATE);
        Due.same(5, "a long track", Due.withTrack("1,2,3,4,5,6,7,8,9,0,1,2").count(0), 12);
        Due.type(x, "9p,9,9p,9");
        Due.same(5, "layTrack()", x.layTrack(), 4);
        Due.type(x, "1,1,1");
        Due.same(5, "layTrack() of a shorter one", x.layTrack(), 3);
        Due.same(5, "segment(2, 0)", x.segment(2, 0), 1);
        Due.same(5, "segment(2, 1)", x.segment(2, 1), 1);
        Due.same(5, "segment(0, 5)", x.segment(0, 5), 4);
        Due.same(5, "segment(1, 5)", x.segment(1, 5), 1);
        Due.same(5, "segment(3, 0)", x.segment(3, 0), BAD);
        Due.same(5, "undo()", x.undo(), 1);
        Due.same(5, "count(0) behind undo", x.count(0), 4);
        Due.same(5, "segment(2, 5) behind undo", x.segment(2, 5), 2);
        Due.same(5, "undo brings no text back", x.clear(), 0);
    }

    private static void layTrackKeepsTheRest() {
        PeatRailway x = Due.withTrack("9,9,9");
        x.set(0, 500);
        x.set(1, 7);
        x.set(2, 1);
        x.dig(300);
        x.addTrain(2, 5);
        x.addTrain(3, 20);
        x.run(1);
        x.addTrain(1, 20);
        x.run(39);
        int delivered = x.account(3);
        int stock = x.account(1);
        int aboard = x.account(2);
        x.dropTrain(0);
        int lost = x.account(4);
        Due.holds(5, "the test has peat delivered, in stock and aboard",
                delivered > 0 && stock > 0 && x.account(2) > 0 && x.count(3) > 0);
        int left = x.account(2);
        Due.same(5, "peat aboard", lost + left, aboard);
        Due.type(x, "1,1,1,1");
        Due.same(5, "layTrack()", x.layTrack(), 4);
        Due.same(5, "trains", x.count(1), 0);
        Due.same(5, "train(0, 0)", x.train(0, 0), BAD);
        Due.same(5, "greatest sinking", x.count(3), 0);
        Due.same(5, "clock", x.count(2), 40);
        Due.same(5, "waits of the trains that are there", x.count(4), 0);
        Due.same(5, "dug", x.account(0), 300);
        Due.same(5, "stock", x.account(1), stock);
        Due.same(5, "aboard", x.account(2), 0);
        Due.same(5, "delivered", x.account(3), delivered);
        Due.same(5, "lost", x.account(4), lost + left);
        Due.same(5, "setting(0)", x.setting(0), 500);
        Due.same(5, "setting(1)", x.setting(1), 7);
        Due.same(5, "setting(2)", x.setting(2), 1);
        Due.same(5, "a new train's number", x.addTrain(1, 1), 0);
    }
}
