/**
 * All promises: long runs of calls, drawn by a fixed row of numbers, on PeatRailway and on the
 * Model; every answer is compared, and behind many calls the digest is, too.
 */
public final class ModelTest {
    private static final int OBJECTS = 400;
    /** An object is used for 512 calls; one step of a run makes no more than 40. */
    private static final int LAST_STEP = 512 - 40;
    private static final int[] ODD = {
        -1, 0, 1, 2, 3, 4, 5, 6, 7, 8, 9, 10, 11, 12, 20, 21, 50, 51, 200, 201, 900, 901, 1000,
        1001, Integer.MIN_VALUE, Integer.MAX_VALUE, -2, -3, 13, 32, 33
    };
    private static final String[] NAMES = {
        "type", "clear", "fault", "layTrack", "set", "dig", "addTrain", "dropTrain", "setLoad",
        "run", "undo", "keep", "back", "segment", "train", "why", "account", "count", "setting",
        "ifRun", "ticksFor", "bestRule", "bestLoad", "meanSinking", "digest"
    };
    /** How often each of them is drawn; type is drawn by whole texts beside. */
    private static final int[] SHARES = {
        6, 2, 4, 4, 6, 12, 12, 3, 6, 24, 6, 4, 4, 12, 16, 12, 4, 8, 2, 8, 4, 3, 2, 3, 4
    };

    private static long seed;
    private static int calls;
    private static final int[] reasons = new int[6];
    private static final int[] answered = new int[25];

    public static void main(String[] args) {
        for (int object = 0; object < OBJECTS; object++) {
            seed = object * 7919L + 1;
            runOne(object);
            if (Due.wrongSoFar() > 20) {
                break;
            }
        }
        for (int reason = 0; reason < reasons.length; reason++) {
            Due.holds(11, "the reason " + reason + " comes about", reasons[reason] > 100);
        }
        for (int method = 0; method < answered.length; method++) {
            Due.holds(26, NAMES[method] + " answers without an error", answered[method] > 100);
        }
        Due.end();
    }

    private static int draw(int bound) {
        seed = seed * 6364136223846793005L + 1442695040888963407L;
        return (int) Math.floorMod(seed >>> 33, (long) bound);
    }

    /** Mostly a number in the range, and now and then any other. */
    private static int draw(int least, int most) {
        if (draw(16) == 0) {
            return ODD[draw(ODD.length)];
        }
        return least + draw(most - least + 1);
    }

    private static void runOne(int object) {
        PeatRailway x = new PeatRailway();
        Model m = new Model();
        calls = 0;
        boolean first = true;
        while (calls < LAST_STEP) {
            if (draw(120) == 0 || first && object % 4 != 0) {
                String text = drawText();
                for (int i = 0; i < text.length(); i++) {
                    calls++;
                    Due.same(2, "type", x.type(text.charAt(i)), m.type(text.charAt(i)));
                }
                compare(object, x, m, 3, 0, 0);
            } else {
                call(object, x, m, drawMethod());
            }
            first = false;
        }
        compare(object, x, m, 24, 0, 0);
        Due.holds(26, "the calls are no more than 512", calls <= 512);
    }

    private static int drawMethod() {
        int sum = 0;
        for (int share : SHARES) {
            sum += share;
        }
        int drawn = draw(sum);
        int method = 0;
        while (drawn >= SHARES[method]) {
            drawn -= SHARES[method];
            method++;
        }
        return method;
    }

    private static String drawText() {
        StringBuilder text = new StringBuilder();
        int segments = 3 + draw(draw(4) == 0 ? 11 : 6);
        int soft = 1 + draw(10);
        for (int s = 0; s < segments; s++) {
            text.append(s == 0 ? "" : ",").append(draw(soft));
            text.append(draw(3) == 0 ? "p" : "");
        }
        if (draw(12) == 0) {
            text.setCharAt(draw(text.length()), "p,0 x".charAt(draw(5)));
        }
        return text.toString();
    }

    private static void call(int object, PeatRailway x, Model m, int method) {
        switch (method) {
            case 0:
                int code = draw(8) == 0 ? draw(25, 133) : "0123456789,,,,,,ppp".charAt(draw(19));
                compare(object, x, m, 0, code, 0);
                break;
            case 4:
                int setting = draw(0, 2);
                int[][] bounds = {{10, draw(2) == 0 ? 60 : 900}, {1, 50}, {0, 2}};
                int which = setting >= 0 && setting < 3 ? setting : 0;
                compare(object, x, m, 4, setting, draw(bounds[which][0], bounds[which][1]));
                break;
            case 5: compare(object, x, m, 5, draw(1, draw(2) == 0 ? 1000 : 100), 0); break;
            case 6: compare(object, x, m, 6, draw(1, draw(2) == 0 ? 6 : 1), draw(1, 20)); break;
            case 7: case 15: compare(object, x, m, method, draw(0, 3), 0); break;
            case 8: compare(object, x, m, 8, draw(0, 3), draw(1, 20)); break;
            case 9:
                compare(object, x, m, 9, draw(1, draw(6) == 0 ? 200 : 9), 0);
                for (int train = 0; train < x.count(1); train++) {
                    compare(object, x, m, 14, train, 6);
                    compare(object, x, m, 15, train, 0);
                }
                calls += 5;
                break;
            case 11: case 12: compare(object, x, m, method, draw(0, 1), 0); break;
            case 13: compare(object, x, m, 13, draw(0, 8), draw(0, 6)); break;
            case 14: compare(object, x, m, 14, draw(0, 3), draw(0, 9)); break;
            case 16: compare(object, x, m, 16, draw(0, 4), 0); break;
            case 17: compare(object, x, m, 17, draw(0, 7), 0); break;
            case 18: compare(object, x, m, 18, draw(0, 2), 0); break;
            case 19: compare(object, x, m, 19, draw(1, 200), draw(0, 3)); break;
            case 20: compare(object, x, m, 20, draw(1, draw(3) == 0 ? 1000 : 100), 0); break;
            case 21: compare(object, x, m, 21, draw(1, 200), 0); break;
            case 22: compare(object, x, m, 22, draw(0, 3), draw(1, 200)); break;
            default: compare(object, x, m, method, 0, 0); break;
        }
    }

    private static void compare(int object, PeatRailway x, Model m, int method, int a, int b) {
        String call = "object " + object + ": " + NAMES[method] + "(" + a + ", " + b + ")";
        int promise = method + 2;
        calls++;
        if (method == 23) {
            Due.sameDouble(promise, call, x.meanSinking(), m.meanSinking());
            answered[method]++;
            return;
        }
        long got = method == 24 ? x.digest() : answer(x, method, a, b);
        long want = method == 24 ? m.digest() : answer(m, method, a, b);
        Due.same(promise, call, got, want);
        answered[method] += want >= 0 || method == 24 || method == 2 ? 1 : 0;
        if (method == 15 && want >= 0 && want < 6) {
            reasons[(int) want]++;
        }
        if (want < 0 || draw(20) == 0) {
            calls++;
            Due.same(promise, call + ", then digest()", x.digest(), m.digest());
        }
    }

    private static int answer(PeatRailway x, int method, int a, int b) {
        switch (method) {
            case 0: return x.type(a);
            case 1: return x.clear();
            case 2: return x.fault();
            case 3: return x.layTrack();
            case 4: return x.set(a, b);
            case 5: return x.dig(a);
            case 6: return x.addTrain(a, b);
            case 7: return x.dropTrain(a);
            case 8: return x.setLoad(a, b);
            case 9: return x.run(a);
            case 10: return x.undo();
            case 11: return x.keep(a);
            case 12: return x.back(a);
            case 13: return x.segment(a, b);
            case 14: return x.train(a, b);
            case 15: return x.why(a);
            case 16: return x.account(a);
            case 17: return x.count(a);
            case 18: return x.setting(a);
            case 19: return x.ifRun(a, b);
            case 20: return x.ticksFor(a);
            case 21: return x.bestRule(a);
            default: return x.bestLoad(a, b);
        }
    }

    private static int answer(Model m, int method, int a, int b) {
        switch (method) {
            case 0: return m.type(a);
            case 1: return m.clear();
            case 2: return m.fault();
            case 3: return m.layTrack();
            case 4: return m.set(a, b);
            case 5: return m.dig(a);
            case 6: return m.addTrain(a, b);
            case 7: return m.dropTrain(a);
            case 8: return m.setLoad(a, b);
            case 9: return m.run(a);
            case 10: return m.undo();
            case 11: return m.keep(a);
            case 12: return m.back(a);
            case 13: return m.segment(a, b);
            case 14: return m.train(a, b);
            case 15: return m.why(a);
            case 16: return m.account(a);
            case 17: return m.count(a);
            case 18: return m.setting(a);
            case 19: return m.ifRun(a, b);
            case 20: return m.ticksFor(a);
            case 21: return m.bestRule(a);
            default: return m.bestLoad(a, b);
        }
    }
}
