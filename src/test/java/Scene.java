/** Railways in states that several tests need, made by ordinary calls alone. */
final class Scene {
    /** 35 signs, the longest text without a fault. */
    static final String LONGEST = "0p,1p,2p,3p,4p,5p,6p,7p,8p,9p,0p,1p";

    private Scene() { }

    /**
     * A railway with 200 peat on a track of its own, behind a script: "+3" adds a train of 3 wagons
     * with a load of 1 for each, "12" runs 12 ticks, "/2" sets the rule 2.
     */
    static PeatRailway of(String track, String script) {
        PeatRailway x = Due.withTrack(track);
        x.dig(200);
        for (String word : script.split(" ")) {
            if (word.startsWith("+")) {
                x.addTrain(Integer.parseInt(word.substring(1)), 1);
            } else if (word.startsWith("/")) {
                x.set(2, Integer.parseInt(word.substring(1)));
            } else {
                x.run(Integer.parseInt(word));
            }
        }
        return x;
    }

    /** Where all trains are and whether they go up or down, such as "3d 0u". */
    static String places(PeatRailway x) {
        StringBuilder text = new StringBuilder();
        for (int t = 0; t < x.count(1); t++) {
            text.append(t == 0 ? "" : " ").append(x.train(t, 3));
            text.append(x.train(t, 4) == 1 ? 'u' : 'd');
        }
        return text.toString();
    }

    /** Runs more ticks than one call takes. */
    static void run(PeatRailway x, int ticks) {
        for (int left = ticks; left > 0; left -= 200) {
            x.run(Math.min(left, 200));
        }
    }

    /** On the track 1,0,0 a train of 4 wagons without peat sinks the bog by 1 in each tick. */
    static PeatRailway sunkBy(int sinking) {
        PeatRailway x = Due.withTrack("1,0,0");
        x.addTrain(4, 20);
        run(x, sinking);
        Due.same(11, "segment(0, 2)", x.segment(0, 2), sinking);
        return x;
    }

    /**
     * That some() and full() are what they say. They ask nothing themselves: a question that
     * changed something would change it for all that they are compared with, too.
     */
    static void areAsTold() {
        PeatRailway some = some();
        Due.same(0, "some(): history", some.count(5), 6);
        Due.same(0, "some(): images", some.count(6), 2);
        PeatRailway full = full();
        Due.same(0, "full(): trains", full.count(1), 4);
        Due.same(0, "full(): stock", full.account(1), 5000);
        Due.same(0, "full(): history", full.count(5), 8);
        Due.same(0, "full(): images", full.count(6), 3);
    }

    /** Two trains, a history of six, the image 1 alone, a text with a fault, and room for more. */
    static PeatRailway some() {
        PeatRailway x = Due.withTrack("3p,7,5p,9,2");
        x.dig(500);
        x.addTrain(2, 20);
        x.addTrain(1, 7);
        x.run(23);
        x.keep(1);
        x.set(0, 120);
        Due.type(x, "1,2");
        return x;
    }

    /** Everything that has a limit is at it. */
    static PeatRailway full() {
        PeatRailway x = Due.withTrack("9p,3,7p,1,5");
        x.addTrain(1, 1);
        x.addTrain(6, 20);
        x.addTrain(2, 5);
        x.dig(300);
        x.run(9);
        x.keep(0);
        x.addTrain(3, 7);
        for (int i = 0; i < 4; i++) {
            x.dig(1000);
        }
        x.run(5);
        x.keep(1);
        x.set(0, 60);
        x.run(4);
        x.set(1, 2);
        x.set(2, 1);
        x.run(5);
        x.dropTrain(0);
        x.addTrain(5, 1);
        x.dig(852);
        Due.type(x, LONGEST + "?0p,~");
        return x;
    }
}
