/** Promises 25 and 26: the mean sinking and the digest. */
public final class DigestTest {
    public static void main(String[] args) {
        meanSinking();
        digestOfANewOne();
        digestIsOfAllThatIsTold();
        digestDoesNotChange();
        Due.end();
    }

    private static void meanSinking() {
        PeatRailway x = new PeatRailway();
        Due.sameDouble(25, "meanSinking()", x.meanSinking(), 0.0);
        String[] tracks = {
            "9,9,9", "9,9,9,9", "9,9,9,9,9", "9,9,9,9,9,9", "9,9,9,9,9,9,9", "9,9,9,9,9,9,9,9",
            "9,9,9,9,9,9,9,9,9", "9,9,9,9,9,9,9,9,9,9", "9,9,9,9,9,9,9,9,9,9,9",
            "9,9,9,9,9,9,9,9,9,9,9,9"
        };
        for (String track : tracks) {
            x = Due.withTrack(track);
            x.set(1, 1);
            x.dig(100);
            x.addTrain(1, 20);
            x.addTrain(6, 20);
            for (int i = 0; i < 30; i++) {
                x.run(1 + i % 7);
                int sum = 0;
                for (int s = 0; s < x.count(0); s++) {
                    sum += x.segment(s, 2);
                }
                Due.sameDouble(25, "meanSinking() of " + track, x.meanSinking(),
                        (double) sum / x.count(0));
                Due.same(26, "digest() of " + track, x.digest(), digestOf(x, ""));
            }
        }
        PeatRailway y = Due.withTrack("1,0,0");
        y.addTrain(3, 1);
        y.run(1);
        Due.sameDouble(25, "meanSinking() of 1, 0, 0", y.meanSinking(), 1.0 / 3.0);
        y = Due.withTrack("1,0,0,0,0,0,0,0,0,0,0,0");
        y.addTrain(3, 1);
        y.run(1);
        Due.sameDouble(25, "meanSinking() of the least", y.meanSinking(), 1.0 / 12.0);
        Due.same(26, "digest() of the least", y.digest(), digestOf(y, ""));
    }

    private static void digestOfANewOne() {
        PeatRailway x = new PeatRailway();
        Due.same(26, "digest()", x.digest(), digestOf(x, ""));
        Due.holds(26, "two new ones are alike", x.digest() == new PeatRailway().digest());
    }

    /** The digest as the document writes it, by what the other methods tell. */
    static long digestOf(PeatRailway x, String text) {
        long hash = 2069;
        for (int what = 0; what <= 7; what++) {
            hash = 31 * hash + x.count(what);
        }
        for (int i = 0; i <= 2; i++) {
            hash = 31 * hash + x.setting(i);
        }
        for (int what = 0; what <= 4; what++) {
            hash = 31 * hash + x.account(what);
        }
        for (int s = 0; s < x.count(0); s++) {
            for (int what = 0; what <= 6; what++) {
                hash = 31 * hash + x.segment(s, what);
            }
        }
        for (int t = 0; t < x.count(1); t++) {
            for (int what = 0; what <= 9; what++) {
                hash = 31 * hash + x.train(t, what);
            }
            hash = 31 * hash + x.why(t);
        }
        for (int what = 0; what <= 3; what++) {
            hash = 31 * hash + x.ifRun(50, what);
        }
        hash = 31 * hash + Double.doubleToLongBits(x.meanSinking());
        hash = 31 * hash + text.length();
        for (int i = 0; i < text.length(); i++) {
            hash = 31 * hash + text.charAt(i);
        }
        return hash;
    }

    private static void digestIsOfAllThatIsTold() {
        PeatRailway x = Due.withTrack("3p,7,5p,9,2");
        String text = "0p,~ x";
        Due.type(x, text);
        long last = x.digest();
        for (int step = 0; step < 12; step++) {
            switch (step) {
                case 0: x.dig(300); break;
                case 1: x.addTrain(2, 4); break;
                case 2: x.addTrain(5, 20); break;
                case 3: x.set(0, 120); break;
                case 4: x.set(1, 9); break;
                case 5: x.set(2, 1); break;
                case 6: x.keep(1); break;
                case 7: x.setLoad(0, 20); break;
                case 8: x.run(29); break;
                case 9: x.dropTrain(0); break;
                case 10: x.back(1); break;
                default: x.undo(); break;
            }
            long now = x.digest();
            Due.same(26, "digest() behind step " + step, now, digestOf(x, text));
            Due.holds(26, "the digest is another one behind step " + step, now != last);
            last = now;
        }
        x.type('p');
        Due.same(26, "digest() of a longer text", x.digest(), digestOf(x, text + "p"));
        x.clear();
        Due.same(26, "digest() without a text", x.digest(), digestOf(x, ""));
    }

    private static void digestDoesNotChange() {
        PeatRailway x = new PeatRailway();
        x.dig(500);
        x.addTrain(2, 4);
        x.run(77);
        long before = x.digest();
        Due.same(26, "digest() again", x.digest(), before);
        Due.same(26, "clock", x.count(2), 77);
        Due.same(26, "history", x.count(5), 3);
    }
}
