/** Promises 12 to 14: undo, keep and back. */
public final class HistoryTest {
    private static final int BAD = PeatRailway.BAD, STATE = PeatRailway.STATE;

    public static void main(String[] args) {
        undoTakesBackEveryChange();
        onlyChangesAreRecorded();
        eightStatesAtMost();
        undoBringsAllBack();
        keepErrors();
        backErrors();
        imagesStay();
        backIsAChange();
        Due.end();
    }

    /** A railway in which all sorts of things have come about; its history is full. */
    private static PeatRailway busy() {
        PeatRailway x = Due.withTrack("3p,7,5p,9,2");
        x.set(0, 200);
        x.set(1, 3);
        x.dig(400);
        x.addTrain(2, 20);
        x.addTrain(4, 9);
        x.addTrain(1, 1);
        x.run(47);
        x.dropTrain(1);
        x.dig(9);
        return x;
    }

    private static void undoTakesBackEveryChange() {
        PeatRailway x = busy();
        x.keep(1);
        Due.type(x, "1,2,3");
        int[] back = new int[8];
        for (int change = 0; change < 8; change++) {
            x.run(5);
            int states = x.count(5);
            // The history is full: count(5), and so the digest, stays as it is by a change.
            long[] before = Twin.state(x);
            back[change] = doChange(x, change);
            Due.holds(12, "the change " + change + " answers no error: " + back[change],
                    back[change] >= 0);
            Due.same(12, "undo() of the change " + change, x.undo(), states - 1);
            Twin.sameState(12, "behind undo of the change " + change, Twin.state(x), before);
            if (change == 3) {
                Due.same(12, "undo brings no text back", x.clear(), 0);
            }
        }
    }

    private static int doChange(PeatRailway x, int change) {
        switch (change) {
            case 0: return x.set(2, 2);
            case 1: return x.dig(77);
            case 2: return x.addTrain(3, 3);
            case 3: return x.layTrack();
            case 4: return x.dropTrain(0);
            case 5: return x.setLoad(1, 17);
            case 6: return x.run(33);
            default: return x.back(1);
        }
    }

    private static void onlyChangesAreRecorded() {
        PeatRailway x = new PeatRailway();
        x.type('0');
        x.clear();
        x.fault();
        x.layTrack();
        x.set(0, 9);
        x.dig(0);
        x.addTrain(0, 0);
        x.dropTrain(0);
        x.setLoad(0, 1);
        x.run(0);
        x.undo();
        x.keep(0);
        x.back(1);
        x.back(2);
        Twin.state(x);
        x.ticksFor(1);
        x.bestRule(1);
        x.bestLoad(0, 1);
        x.meanSinking();
        x.digest();
        Due.same(12, "count(5)", x.count(5), 0);
        Due.same(12, "undo()", x.undo(), STATE);
        x.dig(1);
        Due.same(12, "count(5)", x.count(5), 1);
        Due.same(12, "undo()", x.undo(), 0);
        Due.same(12, "undo()", x.undo(), STATE);
        Due.same(12, "account(0)", x.account(0), 0);
    }

    private static void eightStatesAtMost() {
        for (int changes = 1; changes <= 20; changes++) {
            PeatRailway x = new PeatRailway();
            for (int i = 1; i <= changes; i++) {
                x.dig(i);
                Due.same(12, "count(5) behind " + i, x.count(5), Math.min(i, 8));
            }
            int kept = Math.min(changes, 8);
            for (int left = kept - 1; left >= 0; left--) {
                Due.same(12, "undo() of " + changes, x.undo(), left);
                int digs = changes - kept + left;
                Due.same(12, "dug behind undo of " + changes, x.account(0), digs * (digs + 1) / 2);
            }
            Due.same(12, "undo() beyond the history", x.undo(), STATE);
            x.dig(5);
            Due.same(12, "count(5) behind dig", x.count(5), 1);
            Due.same(12, "undo()", x.undo(), 0);
        }
    }

    private static void undoBringsAllBack() {
        PeatRailway x = new PeatRailway();
        x.dig(100);
        x.addTrain(1, 20);
        x.run(9);
        long[] nine = Twin.state(x);
        x.run(100);
        x.run(100);
        Due.type(x, "9,9,9");
        x.layTrack();
        x.addTrain(6, 1);
        x.run(20);
        for (int i = 0; i < 5; i++) {
            x.undo();
        }
        Due.same(12, "count(5)", x.count(5), 3);
        Twin.sameState(12, "behind five undos", Twin.state(x), nine);
        // A change behind undo is recorded in the place of those taken back.
        x.dig(1);
        Due.same(12, "count(5)", x.count(5), 4);
        Due.same(12, "undo()", x.undo(), 3);
        Twin.sameState(12, "behind undo", Twin.state(x), nine);
    }

    private static void keepErrors() {
        PeatRailway x = busy();
        long before = x.digest();
        Due.same(13, "keep(-1)", x.keep(-1), BAD);
        Due.same(13, "keep(2)", x.keep(2), BAD);
        Due.same(13, "keep(32)", x.keep(32), BAD);
        Due.same(13, "keep(least)", x.keep(Integer.MIN_VALUE), BAD);
        Due.same(13, "digest behind errors", x.digest(), before);
        Due.same(13, "keep(1)", x.keep(1), 47);
        Due.same(13, "count(6)", x.count(6), 2);
        Due.same(13, "keep is no change", x.count(5), 8);
        Due.same(13, "back(0)", x.back(0), STATE);
        Due.same(13, "keep(0)", x.keep(0), 47);
        Due.same(13, "count(6)", x.count(6), 3);
    }

    private static void backErrors() {
        PeatRailway x = busy();
        x.keep(0);
        long before = x.digest();
        Due.same(14, "back(-1)", x.back(-1), BAD);
        Due.same(14, "back(2)", x.back(2), BAD);
        Due.same(14, "back(32)", x.back(32), BAD);
        Due.same(14, "back(most)", x.back(Integer.MAX_VALUE), BAD);
        Due.same(14, "back(1)", x.back(1), STATE);
        Due.same(14, "digest behind errors", x.digest(), before);
    }

    private static void imagesStay() {
        PeatRailway x = busy();
        Due.same(13, "keep(0)", x.keep(0), 47);
        long[] first = Twin.state(x);
        x.run(13);
        Due.same(13, "keep(1)", x.keep(1), 60);
        long[] second = Twin.state(x);
        x.run(200);
        x.dropTrain(0);
        x.dropTrain(0);
        Due.type(x, "1,1,1");
        x.layTrack();
        x.set(2, 1);
        Due.same(14, "back(0)", x.back(0), 47);
        Twin.sameState(14, "behind back(0)", Twin.state(x), first);
        x.run(100);
        x.addTrain(5, 5);
        Due.same(14, "back(1)", x.back(1), 60);
        Twin.sameState(14, "behind back(1)", Twin.state(x), second);
        Due.same(14, "back(0) again", x.back(0), 47);
        Twin.sameState(14, "behind back(0) again", Twin.state(x), first);
        for (int i = 0; i < 8; i++) {
            x.undo();
        }
        Due.same(13, "undo takes no image away", x.count(6), 3);
        Due.same(14, "back(1) behind undo", x.back(1), 60);
        x.undo();
        x.run(1);
        int clock = x.count(2);
        Due.same(13, "keep(0) in place of another", x.keep(0), clock);
        long[] third = Twin.state(x);
        x.run(7);
        Due.same(14, "back(0)", x.back(0), clock);
        Twin.sameState(14, "behind back(0) of the new image", Twin.state(x), third);
    }

    private static void backIsAChange() {
        PeatRailway x = new PeatRailway();
        x.dig(10);
        x.keep(0);
        x.dig(20);
        x.run(3);
        Due.same(14, "back(0)", x.back(0), 0);
        Due.same(14, "count(5)", x.count(5), 4);
        Due.same(14, "account(1)", x.account(1), 10);
        Due.same(14, "undo()", x.undo(), 3);
        Due.same(14, "account(1)", x.account(1), 30);
        Due.same(14, "clock", x.count(2), 3);
        Due.same(14, "undo()", x.undo(), 2);
        Due.same(14, "undo()", x.undo(), 1);
        Due.same(14, "account(1)", x.account(1), 10);
        Due.type(x, "1,2");
        x.back(0);
        Due.same(14, "back leaves the text alone", x.clear(), 3);
    }
}
