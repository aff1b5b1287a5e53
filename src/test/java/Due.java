/** What the tests of the project share: it prints every answer that is not the one that is due. */
final class Due {
    private static int wrong = 0;
    private static int asked = 0;

    private Due() { }

    static void same(int promise, String call, long got, long want) {
        asked++;
        if (got != want) {
            wrong++;
            System.out.println("promise " + promise + ": " + call + " answered " + got
                    + ", due is " + want);
        }
    }

    static void sameDouble(int promise, String call, double got, double want) {
        asked++;
        if (Double.doubleToLongBits(got) != Double.doubleToLongBits(want)) {
            wrong++;
            System.out.println("promise " + promise + ": " + call + " answered " + got
                    + ", due is " + want);
        }
    }

    static void holds(int promise, String claim, boolean holds) {
        asked++;
        if (!holds) {
            wrong++;
            System.out.println("promise " + promise + ": does not hold: " + claim);
        }
    }

    static int wrongSoFar() {
        return wrong;
    }

    /** Types a text; every character is taken. */
    static void type(PeatRailway x, String text) {
        for (int i = 0; i < text.length(); i++) {
            x.type(text.charAt(i));
        }
    }

    /** A railway with a track of its own. */
    static PeatRailway withTrack(String track) {
        PeatRailway x = new PeatRailway();
        type(x, track);
        holds(5, "the track " + track + " can be laid", x.layTrack() > 0);
        return x;
    }

    static void end() {
        System.out.println(asked + " answers, " + wrong + " not as due");
        if (wrong != 0) {
            System.exit(1);
        }
    }
}
