import java.util.function.Supplier;
import java.util.function.ToLongFunction;

/** Compares a railway with a twin on which a call was not made, by all that both can tell. */
final class Twin {
    private static final int MOST_STATES = 8, IMAGES = 2;

    private Twin() { }

    /** The call answers what is due and changes nothing: behind it the twins are still alike. */
    static void unchanged(int promise, String call, Supplier<PeatRailway> maker,
            ToLongFunction<PeatRailway> made, long due) {
        PeatRailway x = maker.get();
        Due.same(promise, call, made.applyAsLong(x), due);
        alike(promise, "behind " + call, x, maker.get());
    }

    /** Uses both up: their histories are undone and their images brought back. */
    static void alike(int promise, String when, PeatRailway x, PeatRailway y) {
        sameNow(promise, when, x, y);
        for (int i = 0; i <= MOST_STATES; i++) {
            Due.same(promise, "undo() " + i + " " + when, x.undo(), y.undo());
            sameNow(promise, when + " and undo() " + i, x, y);
        }
        for (int image = 0; image < IMAGES; image++) {
            Due.same(promise, "back(" + image + ") " + when, x.back(image), y.back(image));
            sameNow(promise, when + " and back(" + image + ")", x, y);
        }
        Due.same(promise, "clear() " + when, x.clear(), y.clear());
    }

    /** The digest is of the text, too; the history and the images are in it by their numbers. */
    private static void sameNow(int promise, String when, PeatRailway x, PeatRailway y) {
        Due.same(promise, "digest() " + when, x.digest(), y.digest());
        Due.same(promise, "fault() " + when, x.fault(), y.fault());
    }

    /** All that is told of the state, but nothing of the history, the images and the text. */
    static long[] state(PeatRailway x) {
        long[] all = new long[256];
        int n = 0;
        for (int what = 0; what < 8; what++) {
            if (what != 5 && what != 6) {
                all[n++] = x.count(what);
            }
        }
        for (int i = 0; i < 3; i++) {
            all[n++] = x.setting(i);
        }
        for (int i = 0; i < 5; i++) {
            all[n++] = x.account(i);
        }
        for (int s = 0; s < 12; s++) {
            for (int what = 0; what < 7; what++) {
                all[n++] = x.segment(s, what);
            }
        }
        for (int t = 0; t < 4; t++) {
            for (int what = 0; what < 10; what++) {
                all[n++] = x.train(t, what);
            }
            all[n++] = x.why(t);
        }
        for (int what = 0; what < 4; what++) {
            all[n++] = x.ifRun(200, what);
        }
        return all;
    }

    static void sameState(int promise, String when, long[] got, long[] want) {
        for (int i = 0; i < got.length; i++) {
            Due.same(promise, "value " + i + " of the state " + when, got[i], want[i]);
        }
    }
}
