import java.util.ArrayList;
import java.util.List;
import java.util.function.Supplier;
import java.util.function.ToLongFunction;

/** "History and images." of the description, and the promises 12 to 14 at their edges. */
public final class EdgesOfHistoryTest {
    private static final int BAD = PeatRailway.BAD, STATE = PeatRailway.STATE;
    private static final int MOST_STATES = 8;

    private record Call(int promise, String name, ToLongFunction<PeatRailway> made) { }

    private static final List<Call> CHANGES = List.of(
            new Call(5, "layTrack()", x -> x.layTrack()), new Call(6, "set()", x -> x.set(2, 2)),
            new Call(7, "dig()", x -> x.dig(3)), new Call(8, "addTrain()", x -> x.addTrain(3, 3)),
            new Call(9, "dropTrain()", x -> x.dropTrain(1)),
            new Call(10, "setLoad()", x -> x.setLoad(0, 9)), new Call(11, "run()", x -> x.run(19)),
            new Call(14, "back()", x -> x.back(1)));

    public static void main(String[] args) {
        Scene.areAsTold();
        everyChangeRecordsOneState();
        aChangeOfNothingIsRecorded();
        whatIsToldChangesNothing();
        textAndImagesAreNotOfTheState();
        emptyHistory();
        fullHistory();
        oneBeyondTheHistory();
        undoneStatesAreFree();
        imagesThatKeepNothing();
        imagesThatKeepSomething();
        anImageIsKeptInPlaceOfAnother();
        theImageStays();
        theStateIsEverything();
        Due.end();
    }

    /** What is told, by each of its numbers, and what is told ahead. */
    private static List<Call> questions() {
        List<Call> all = new ArrayList<>(List.of(new Call(4, "fault()", x -> x.fault()),
                new Call(17, "why(0)", x -> x.why(0)), new Call(17, "why(1)", x -> x.why(1)),
                new Call(22, "ticksFor(1)", x -> x.ticksFor(1)),
                new Call(22, "ticksFor(1000)", x -> x.ticksFor(1000)),
                new Call(23, "bestRule(200)", x -> x.bestRule(200)),
                new Call(24, "bestLoad(1, 200)", x -> x.bestLoad(1, 200)),
                new Call(25, "meanSinking()", x -> (long) x.meanSinking()),
                new Call(26, "digest()", x -> x.digest())));
        for (int i = 0; i < 10; i++) {
            int what = i;
            addQuestion(all, 15, 7, what, "segment(1, ", x -> x.segment(1, what));
            addQuestion(all, 16, 10, what, "train(1, ", x -> x.train(1, what));
            addQuestion(all, 18, 5, what, "account(", x -> x.account(what));
            addQuestion(all, 19, 8, what, "count(", x -> x.count(what));
            addQuestion(all, 20, 3, what, "setting(", x -> x.setting(what));
            addQuestion(all, 21, 4, what, "ifRun(200, ", x -> x.ifRun(200, what));
        }
        return all;
    }

    private static void addQuestion(List<Call> all, int promise, int numbers, int what,
            String name, ToLongFunction<PeatRailway> made) {
        if (what < numbers) {
            all.add(new Call(promise, name + what + ")", made));
        }
    }

    /** Two trains, the image 1, and a text that can be laid. */
    private static PeatRailway ready() {
        PeatRailway x = Scene.some();
        x.clear();
        Due.type(x, "5,6p,7,8");
        return x;
    }

    private static PeatRailway behind(Call call) {
        PeatRailway x = ready();
        Due.holds(call.promise, call.name + " is no error", call.made.applyAsLong(x) >= 0);
        return x;
    }

    /** "each change records the state before it"; undo "takes back the latest change" */
    private static void everyChangeRecordsOneState() {
        for (Call change : CHANGES) {
            PeatRailway x = behind(change);
            PeatRailway y = ready();
            Due.same(change.promise, change.name + ": count(5)", x.count(5), 7);
            Due.same(12, "undo() of " + change.name, x.undo(), 6);
            if (change.promise == 5) {
                y.clear();
            }
            Twin.alike(12, "behind undo() of " + change.name, x, y);
        }
    }

    /** A change is one by the call, even if all stays as it was. */
    private static void aChangeOfNothingIsRecorded() {
        PeatRailway x = new PeatRailway();
        Due.same(6, "set() of what is set", x.set(0, 300), 300);
        Due.same(6, "count(5)", x.count(5), 1);
        x.addTrain(1, 5);
        Due.same(10, "setLoad() of what is set", x.setLoad(0, 5), 5);
        Due.same(10, "count(5)", x.count(5), 3);
        x.keep(0);
        Due.same(14, "back() to the present state", x.back(0), 0);
        Due.same(14, "count(5)", x.count(5), 4);
        for (int left = 3; left >= 0; left--) {
            Due.same(12, "undo()", x.undo(), left);
        }
    }

    /** "nothing changes": neither the state nor the text, the images and the history. */
    private static void whatIsToldChangesNothing() {
        for (Supplier<PeatRailway> maker : List.<Supplier<PeatRailway>>of(
                EdgesOfHistoryTest::ready, Scene::full)) {
            for (Call call : questions()) {
                PeatRailway x = maker.get();
                call.made.applyAsLong(x);
                Twin.alike(call.promise, "behind " + call.name, x, maker.get());
                imageStaysBehind(call, maker);
                textStaysBehind(call, maker);
            }
        }
        imageStaysBehind(new Call(2, "type()", x -> x.type('0')), EdgesOfHistoryTest::ready);
        imageStaysBehind(new Call(3, "clear()", x -> x.clear()), Scene::full);
    }

    /** No other call is made between, as the digest makes many of them itself. */
    private static void imageStaysBehind(Call call, Supplier<PeatRailway> maker) {
        for (int image = 0; image < 2; image++) {
            PeatRailway x = maker.get();
            PeatRailway y = maker.get();
            call.made.applyAsLong(x);
            Due.same(14, "back(" + image + ") behind " + call.name, x.back(image), y.back(image));
            Twin.sameState(14, "behind " + call.name + " and back(" + image + ")", Twin.state(x),
                    Twin.state(y));
        }
    }

    /** As above: no other call is made between. */
    private static void textStaysBehind(Call call, Supplier<PeatRailway> maker) {
        PeatRailway x = maker.get();
        call.made.applyAsLong(x);
        Due.same(3, "clear() behind " + call.name, x.clear(), maker.get().clear());
    }

    /** "The state consists of everything but the text, the images and the history." */
    private static void textAndImagesAreNotOfTheState() {
        PeatRailway x = Scene.some();
        x.type('3');
        x.keep(0);
        Due.same(2, "type() and keep() are no changes", x.count(5), 6);
        Due.same(12, "undo()", x.undo(), 5);
        Due.same(13, "the images behind undo()", x.count(6), 3);
        x.back(1);
        Due.same(13, "the images behind back()", x.count(6), 3);
        Due.same(3, "the text behind undo() and back()", x.clear(), 4);
        Due.same(3, "clear() is no change", x.count(5), 6);
        Due.same(12, "undo()", x.undo(), 5);
        Due.same(3, "undo() brings back no text", x.clear(), 0);
        Due.same(14, "back(0)", x.back(0), 23);
        Due.same(14, "back(1)", x.back(1), 23);
        Due.same(12, "the history behind back()", x.count(5), 7);
    }

    // ---- "A history of at most 8 states is kept"

    private static void emptyHistory() {
        PeatRailway x = new PeatRailway();
        Due.same(12, "undo() of a new one", x.undo(), STATE);
        Due.same(12, "undo() again", x.undo(), STATE);
        Due.same(19, "count(5)", x.count(5), 0);
        x.dig(1);
        Due.same(12, "undo() of one", x.undo(), 0);
        Due.same(12, "undo() of none", x.undo(), STATE);
    }

    /** The stock tells which state it is: 1 behind the first dig, 3 behind the second, .. */
    private static PeatRailway dug(int changes) {
        PeatRailway x = new PeatRailway();
        for (int i = 1; i <= changes; i++) {
            x.dig(i);
            Due.same(19, "count(5) behind " + i, x.count(5), Math.min(i, MOST_STATES));
        }
        return x;
    }

    private static void fullHistory() {
        for (int changes = 7; changes <= 8; changes++) {
            PeatRailway x = dug(changes);
            for (int left = changes - 1; left >= 0; left--) {
                Due.same(12, "undo() of " + changes, x.undo(), left);
                Due.same(12, "stock", x.account(1), left * (left + 1) / 2);
            }
            Due.same(12, "undo() of all undone", x.undo(), STATE);
            Due.same(12, "stock", x.account(1), 0);
        }
    }

    /** "when one more is recorded, the oldest one is dropped", whatever the change is */
    private static void oneBeyondTheHistory() {
        for (Call change : CHANGES) {
            PeatRailway x = ready();
            x.dig(1);
            x.dig(2);
            Due.same(12, "count(5) before " + change.name, x.count(5), 8);
            change.made.applyAsLong(x);
            Due.same(12, "count(5) behind " + change.name, x.count(5), 8);
            for (int left = 7; left >= 0; left--) {
                Due.same(12, "undo() behind " + change.name, x.undo(), left);
            }
            // The oldest state, before the track was laid, is gone.
            Due.same(12, "segments of the oldest state", x.count(0), 5);
            Due.same(12, "undo() of all undone", x.undo(), STATE);
        }
        for (int changes = 9; changes <= 17; changes++) {
            PeatRailway x = dug(changes);
            for (int left = 7; left >= 0; left--) {
                int digs = changes - 8 + left;
                Due.same(12, "undo() of " + changes, x.undo(), left);
                Due.same(12, "stock", x.account(1), digs * (digs + 1) / 2);
            }
            Due.same(12, "undo() of all undone", x.undo(), STATE);
        }
    }

    /** What is undone is no longer in the history; there is room again. */
    private static void undoneStatesAreFree() {
        for (int undone = 1; undone <= 8; undone++) {
            PeatRailway x = dug(10);
            for (int i = 0; i < undone; i++) {
                x.undo();
            }
            Due.same(12, "count(5)", x.count(5), 8 - undone);
            int stock = x.account(1);
            x.dig(1);
            Due.same(12, "count(5) behind dig()", x.count(5), 9 - undone);
            Due.same(12, "undo() of that", x.undo(), 8 - undone);
            Due.same(12, "stock", x.account(1), stock);
            for (int left = 7 - undone; left >= 0; left--) {
                Due.same(12, "undo() of the rest", x.undo(), left);
            }
            Due.same(12, "stock of the oldest", x.account(1), 3);
        }
    }

    // ---- "There are 2 images, which keep a state each."

    private static void imagesThatKeepNothing() {
        for (int kept = 0; kept < 2; kept++) {
            PeatRailway x = dug(1);
            Due.same(14, "back(0) of nothing", x.back(0), STATE);
            Due.same(14, "back(1) of nothing", x.back(1), STATE);
            Due.same(19, "count(6)", x.count(6), 0);
            Due.same(13, "keep(" + kept + ")", x.keep(kept), 0);
            Due.same(19, "count(6)", x.count(6), 1 << kept);
            x.dig(9);
            Due.same(14, "back() of the other one", x.back(1 - kept), STATE);
            Due.same(14, "stock behind the refused call", x.account(1), 10);
            Due.same(14, "back(" + kept + ")", x.back(kept), 0);
            Due.same(14, "stock", x.account(1), 1);
            Due.same(13, "keep() of the other one", x.keep(1 - kept), 0);
            Due.same(19, "count(6)", x.count(6), 3);
        }
    }

    /** Each image has a state of its own. */
    private static void imagesThatKeepSomething() {
        PeatRailway x = new PeatRailway();
        Due.same(13, "keep(0)", x.keep(0), 0);
        x.run(5);
        Due.same(13, "keep(1)", x.keep(1), 5);
        x.run(7);
        Due.same(14, "back(0)", x.back(0), 0);
        Due.same(19, "count(2)", x.count(2), 0);
        Due.same(14, "back(1)", x.back(1), 5);
        Due.same(19, "count(2)", x.count(2), 5);
        Due.same(14, "back(-1)", x.back(-1), BAD);
        Due.same(14, "back(2)", x.back(2), BAD);
        Due.same(12, "undo()", x.undo(), 3);
        Due.same(19, "count(2)", x.count(2), 0);
        Due.same(12, "undo()", x.undo(), 2);
        Due.same(19, "count(2)", x.count(2), 12);
    }

    /** "Keeps the state in an image, in place of what it kept." */
    private static void anImageIsKeptInPlaceOfAnother() {
        for (int image = 0; image < 2; image++) {
            PeatRailway x = dug(2);
            x.keep(image);
            x.run(3);
            Due.same(13, "keep() in place of another", x.keep(image), 3);
            Due.same(19, "count(6)", x.count(6), 1 << image);
            Due.same(19, "count(5)", x.count(5), 3);
            x.run(4);
            Due.same(14, "back()", x.back(image), 3);
            x.undo();
            x.undo();
            Due.same(13, "the image is not undone", x.back(image), 3);
        }
    }

    /** "the image stays", whatever becomes of the state that it was brought back to */
    private static void theImageStays() {
        for (Call change : CHANGES) {
            PeatRailway x = ready();
            x.keep(0);
            long[] kept = Twin.state(x);
            for (int again = 0; again < 3; again++) {
                change.made.applyAsLong(x);
                x.run(50);
                x.undo();
                Due.same(14, "back(0) behind " + change.name, x.back(0), 23);
                Twin.sameState(14, "behind " + change.name + " and back(0)", Twin.state(x), kept);
                Due.same(19, "count(6)", x.count(6), 3);
            }
        }
    }

    /** Each part of the state is brought back, by undo and by back. */
    private static void theStateIsEverything() {
        for (Supplier<PeatRailway> maker : List.<Supplier<PeatRailway>>of(
                EdgesOfHistoryTest::ready, Scene::full)) {
            PeatRailway x = maker.get();
            x.keep(0);
            long[] kept = Twin.state(x);
            x.clear();
            Due.type(x, "5,6p,7,8");
            x.layTrack();
            x.set(0, 10);
            x.set(1, 50);
            x.set(2, 2);
            x.addTrain(1, 1);
            x.run(40);
            x.dropTrain(0);
            x.back(0);
            Twin.sameState(14, "behind back(0)", Twin.state(x), kept);
            for (int left = 7; left >= 0; left--) {
                Due.same(12, "undo()", x.undo(), left);
            }
            Twin.sameState(12, "behind eight undos", Twin.state(x), kept);
        }
    }
}
