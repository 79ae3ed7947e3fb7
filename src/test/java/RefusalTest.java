import java.util.ArrayList;
import java.util.LinkedHashMap;
import java.util.List;
import java.util.Map;
import java.util.TreeMap;

/**
 * 'Calls that are refused answer, the first of these that fits .. They change nothing.' For each argument of each
 * call the least and the greatest that is taken and those beyond on each side; each refusal of each call, in each of
 * several states; and beside each refused call a twin of the object that did not get it: all answers of both agree.
 */
public final class RefusalTest {
    private static final int NONE = -6, UNKNOWN = -1, OUTSIDE = -2, STATE = -3, FULL = -4, NO = -5;
    private static final long LOST = -1000000000000000000L;
    private static final int MIN = Integer.MIN_VALUE, MAX = Integer.MAX_VALUE;
    // beside the next ones on each side: what a shift, a byte or a short would wrap to a number that is taken
    private static final int[] NO_PLACES = {-1, 12, -6, 16, 31, 32, 33, 43, -32, -21, 100, 256, 65536, MIN, MAX};
    private static final int[] NO_ONES = {-1, 7, -2, -6, 8, 31, 32, 33, 38, -32, -26, 65, 256, 65536, MIN, MAX};
    private static final int[] NO_SIGNS = {32, 127, -1, 0, 10, 128, 65 - 256, 65 + 256, 65 + 65536, MIN, MAX};
    private static final int[] NOT_THERE = {3, 4, 6};
    private static final String[] STATES = {"bare", "lively", "faulty", "stuck", "brim"};
    private static int wrong = 0;
    private static int refusals = 0;

    interface Call {
        long on(TouchReign x);
    }

    private static void tell(String line) {
        wrong++;
        System.out.println(line);
    }

    private static void due(String call, long got, long want) {
        if (got != want) tell(call + " answered " + got + ", due is " + want);
    }

    private static void write(TouchReign x, String text) {
        x.wipe();
        for (int i = 0; i < text.length(); i++) x.say(text.charAt(i));
    }

    // ---- the states, each of fewer than 230 calls, so that an object stays below its 512

    private static TouchReign state(String name) {
        switch (name) {
            case "bare": return new TouchReign();
            case "lively": return lively("B*B+B>C.");
            case "faulty": return lively("B*B>");
            case "stuck": return lively("B+B>C.");
            default: return brim();
        }
    }

    /** A, B, C, F are there; B is KING by A, with FINGERS crossed; IMAGE 0 is kept of earlier, IMAGE 1 is not. */
    private static TouchReign lively(String pad) {
        TouchReign x = new TouchReign();
        for (int i = 0; i < 6; i++) x.road(i, (i + 1) % 6, true);
        x.road(6, 7, true);
        x.home(4, true);
        x.one(0, 0, 5);
        x.one(1, 1, 0);
        x.one(2, 1, 9);
        x.one(5, 11, 1);
        x.crown(0);
        x.met(0, 1);
        x.seen(0, 1, true);
        x.image(0);
        x.home(9, true);
        x.road(0, 2, true);
        write(x, "AbA>B.B*");
        x.done();
        x.met(1, 2);
        x.met(2, 5);
        x.seen(5, 4, false);
        write(x, pad);
        return x;
    }

    /** All are there with BREATH 9; it is minute 99; 60 signs, 8 MEETINGS, 8 SIGHTS, both IMAGES. */
    private static TouchReign brim() {
        TouchReign x = new TouchReign();
        for (int i = 0; i < 11; i++) x.road(i, i + 1, true);
        for (int who = 0; who < 7; who++) x.one(who, who, 9);
        x.crown(6);
        x.image(1);
        for (int i = 0; i < 8; i++) x.met(i % 7, (i + 1) % 7);
        for (int i = 0; i < 8; i++) x.seen(i, i + 1, true);
        write(x, "............................................................");
        x.done();
        write(x, ".......................................");
        x.done();
        x.home(11, true);
        x.image(0);
        x.home(0, true);
        write(x, "A+B+C+D+E+F+G+A*B*C*D*E*F*G*A*B*C*D*E*F*G*AbAaAbAaAbAaAbAaAb");
        return x;
    }

    // ---- all that an object tells

    private static Map<Integer, Long> told(TouchReign x) {
        Map<Integer, Long> all = new TreeMap<>();
        for (int what = 0; what < 8; what++) all.put(what, (long) x.told(what));
        for (int who = 0; who < 7; who++) {
            for (int part = 0; part < 4; part++) all.put(10 + 10 * who + part, (long) x.told(10 + 10 * who + part));
        }
        for (int place = 0; place < 12; place++) all.put(100 + place, (long) x.told(100 + place));
        return all;
    }

    /** Some 250 calls, the IMAGES being looked at last. */
    private static Map<String, Long> whole(TouchReign x) {
        Map<String, Long> all = new LinkedHashMap<>();
        told(x).forEach((what, answer) -> all.put("told(" + what + ")", answer));
        all.put("fault()", (long) x.fault());
        for (int i = 0; i < 2; i++) all.put("judge(" + i + ")", (long) x.judge(i));
        for (int i = 0; i < 5; i++) all.put("then(" + i + ")", (long) x.then(i));
        for (int who = 0; who < 7; who++) {
            for (int i = 0; i < 3; i++) all.put("behind(" + who + ", " + i + ")", (long) x.behind(who, i));
            all.put("maybe(" + who + ")", (long) x.maybe(who));
            all.put("chance(0, " + who + ", 3, 0)", x.chance(0, who, 3, 0));
        }
        all.put("lairs()", (long) x.lairs());
        for (int i = 0; i < 2; i++) all.put("ask(" + i + ")", (long) x.ask(i));
        for (int i = 0; i < 3; i++) all.put("year(77, 99, " + i + ")", (long) x.year(77, 99, i));
        for (int n = 0; n < 2; n++) {
            String image = "IMAGE " + n + ": ";
            all.put(image + "restore", (long) x.restore(n));
            told(x).forEach((what, answer) -> all.put(image + "told(" + what + ")", answer));
            all.put(image + "lairs()", (long) x.lairs());
            all.put(image + "maybe(0)", (long) x.maybe(0));
        }
        return all;
    }

    private static void sameAsTwin(String state, String call, TouchReign x) {
        Map<String, Long> got = whole(x);
        Map<String, Long> want = whole(state(state));
        for (String question : want.keySet()) {
            if (!want.get(question).equals(got.get(question))) {
                tell(state + ": " + call + " changed " + question + " from " + want.get(question) + " to "
                    + got.get(question));
            }
        }
    }

    private static void refused(String state, String call, long want, Call c) {
        refusals++;
        TouchReign x = state(state);
        due(state + ": " + call, c.on(x), want);
        sameAsTwin(state, call, x);
    }

    private static void refusedInAll(String call, long want, Call c) {
        for (String state : STATES) refused(state, call, want, c);
    }

    // ---- 1 the land, ones, days

    private static void roadsAndHomes() {
        for (int bad : NO_PLACES) {
            for (boolean is : new boolean[] {true, false}) {
                refusedInAll("road(" + bad + ", 0, " + is + ")", UNKNOWN, x -> x.road(bad, 0, is));
                refusedInAll("road(11, " + bad + ", " + is + ")", UNKNOWN, x -> x.road(11, bad, is));
                refusedInAll("road(" + bad + ", " + bad + ", " + is + ")", UNKNOWN, x -> x.road(bad, bad, is));
                refusedInAll("home(" + bad + ", " + is + ")", UNKNOWN, x -> x.home(bad, is));
            }
        }
        for (int place = 0; place < 12; place++) {
            int p = place;
            refusedInAll("road(" + p + ", " + p + ", true)", UNKNOWN, x -> x.road(p, p, true));
            refusedInAll("road(" + p + ", " + p + ", false)", UNKNOWN, x -> x.road(p, p, false));
        }
    }

    private static void comingOnes() {
        for (int bad : NO_ONES) {
            refusedInAll("one(" + bad + ", 0, 0)", UNKNOWN, x -> x.one(bad, 0, 0));
            refusedInAll("one(" + bad + ", 12, 0)", UNKNOWN, x -> x.one(bad, 12, 0));
            refusedInAll("one(" + bad + ", 0, 10)", UNKNOWN, x -> x.one(bad, 0, 10));
            refusedInAll("one(" + bad + ", -1, -1)", UNKNOWN, x -> x.one(bad, -1, -1));
        }
        // of one who is there in some states (1) and of one who is in none but the brim (6)
        for (int who : new int[] {1, 6}) {
            for (int bad : NO_PLACES) {
                refusedInAll("one(" + who + ", " + bad + ", 5)", OUTSIDE, x -> x.one(who, bad, 5));
            }
            for (int bad : new int[] {-1, 10, -6, 16, 256, 65536, MIN, MAX}) {
                refusedInAll("one(" + who + ", 3, " + bad + ")", OUTSIDE, x -> x.one(who, 3, bad));
                refusedInAll("one(" + who + ", 12, " + bad + ")", OUTSIDE, x -> x.one(who, 12, bad));
            }
        }
    }

    private static void goingAndCrowns() {
        for (int bad : NO_ONES) {
            refusedInAll("leave(" + bad + ")", UNKNOWN, x -> x.leave(bad));
            if (bad != -1) refusedInAll("crown(" + bad + ")", UNKNOWN, x -> x.crown(bad));
        }
        for (int who = 0; who < 7; who++) {
            int w = who;
            refused("bare", "leave(" + w + ")", UNKNOWN, x -> x.leave(w));
            refused("bare", "crown(" + w + ")", UNKNOWN, x -> x.crown(w));
        }
        for (int who : NOT_THERE) {
            refused("lively", "leave(" + who + ")", UNKNOWN, x -> x.leave(who));
            refused("lively", "crown(" + who + ")", UNKNOWN, x -> x.crown(who));
        }
    }

    private static void signs() {
        for (int bad : NO_SIGNS) refusedInAll("say(" + bad + ")", OUTSIDE, x -> x.say(bad));
        for (int sign : new int[] {33, 43, 46, 65, 97, 126}) {
            refused("brim", "say(" + sign + ")", FULL, x -> x.say(sign));
        }
    }

    // ---- 2 days

    private static void judging() {
        for (int bad : new int[] {-1, 2, -6, 32, 256, MIN, MAX}) {
            refusedInAll("judge(" + bad + ")", OUTSIDE, x -> x.judge(bad));
        }
        refused("faulty", "judge(0)", NO, x -> x.judge(0));
        refused("faulty", "judge(1)", NO, x -> x.judge(1));
        refused("faulty", "done()", NO, x -> x.done());
        refused("stuck", "done()", NO, x -> x.done());
    }

    private static void behindAndThen() {
        for (int what : new int[] {0, 1, 2, 3, -1}) {
            for (int bad : NO_ONES) {
                refusedInAll("behind(" + bad + ", " + what + ")", UNKNOWN, x -> x.behind(bad, what));
            }
            for (String state : new String[] {"bare", "lively", "faulty", "stuck"}) {
                for (int who : NOT_THERE) {
                    refused(state, "behind(" + who + ", " + what + ")", UNKNOWN, x -> x.behind(who, what));
                }
            }
            refused("bare", "behind(0, " + what + ")", UNKNOWN, x -> x.behind(0, what));
        }
        for (String state : new String[] {"lively", "faulty", "stuck", "brim"}) {
            for (int bad : new int[] {-1, 3, 4, -6, 32, 256, MIN, MAX}) {
                refused(state, "behind(1, " + bad + ")", OUTSIDE, x -> x.behind(1, bad));
            }
        }
        for (int bad : new int[] {-1, 5, -6, 32, 256, MIN, MAX}) {
            refusedInAll("then(" + bad + ")", OUTSIDE, x -> x.then(bad));
        }
        for (String state : new String[] {"faulty", "stuck"}) {
            for (int i = 0; i < 5; i++) {
                int what = i;
                refused(state, "then(" + what + ")", NO, x -> x.then(what));
                if (what < 3) refused(state, "behind(1, " + what + ")", NO, x -> x.behind(1, what));
            }
        }
    }

    // ---- 3 chases, homes

    private static void waysAndShade() {
        for (int bad : NO_PLACES) {
            for (int good : new int[] {0, 11, bad}) {
                refusedInAll("far(" + bad + ", " + good + ")", UNKNOWN, x -> x.far(bad, good));
                refusedInAll("far(" + good + ", " + bad + ")", UNKNOWN, x -> x.far(good, bad));
                refusedInAll("rounds(" + bad + ", " + good + ")", UNKNOWN, x -> x.rounds(bad, good));
                refusedInAll("rounds(" + good + ", " + bad + ")", UNKNOWN, x -> x.rounds(good, bad));
                refusedInAll("heads(" + bad + ", " + good + ")", UNKNOWN, x -> x.heads(bad, good));
                refusedInAll("heads(" + good + ", " + bad + ")", UNKNOWN, x -> x.heads(good, bad));
                refusedInAll("flees(" + bad + ", " + good + ")", UNKNOWN, x -> x.flees(bad, good));
                refusedInAll("flees(" + good + ", " + bad + ")", UNKNOWN, x -> x.flees(good, bad));
            }
            refusedInAll("shade(" + bad + ", 0)", OUTSIDE, x -> x.shade(bad, 0));
            refusedInAll("shade(" + bad + ", 1)", OUTSIDE, x -> x.shade(bad, 1));
            refusedInAll("shade(" + bad + ", 2)", OUTSIDE, x -> x.shade(bad, 2));
        }
        for (int bad : new int[] {-1, 2, -6, 32, 256, MIN, MAX}) {
            refusedInAll("shade(0, " + bad + ")", OUTSIDE, x -> x.shade(0, bad));
            refusedInAll("shade(11, " + bad + ")", OUTSIDE, x -> x.shade(11, bad));
        }
    }

    // ---- 4 who may be king, where he sits

    private static void meetings() {
        for (int bad : NO_ONES) {
            for (int good : new int[] {0, 6, bad}) {
                refusedInAll("met(" + bad + ", " + good + ")", UNKNOWN, x -> x.met(bad, good));
                refusedInAll("met(" + good + ", " + bad + ")", UNKNOWN, x -> x.met(good, bad));
                refusedInAll("touches(" + bad + ", " + good + ")", UNKNOWN, x -> x.touches(bad, good));
                refusedInAll("touches(" + good + ", " + bad + ")", UNKNOWN, x -> x.touches(good, bad));
            }
            refusedInAll("maybe(" + bad + ")", UNKNOWN, x -> x.maybe(bad));
        }
        for (int who = 0; who < 7; who++) {
            int w = who;
            refusedInAll("met(" + w + ", " + w + ")", UNKNOWN, x -> x.met(w, w));
            refused("brim", "met(" + w + ", ..)", FULL, x -> x.met(w, (w + 1) % 7));
        }
    }

    private static void chances() {
        for (int bad : NO_ONES) {
            for (int part : new int[] {0, 1, 2}) {
                for (int t : new int[] {0, 10, 11}) {
                    String rest = ", " + t + ", " + part + ")";
                    refused("lively", "chance(" + bad + ", 0" + rest, LOST + UNKNOWN, x -> x.chance(bad, 0, t, part));
                    refused("bare", "chance(6, " + bad + rest, LOST + UNKNOWN, x -> x.chance(6, bad, t, part));
                    refused("brim", "chance(b, " + bad + rest, LOST + UNKNOWN, x -> x.chance(bad, bad, t, part));
                }
            }
        }
        for (int bad : new int[] {-1, 11, -6, 32, 100, 256, MIN, MAX}) {
            refusedInAll("chance(0, 6, " + bad + ", 0)", LOST + OUTSIDE, x -> x.chance(0, 6, bad, 0));
            refusedInAll("chance(6, 0, " + bad + ", 1)", LOST + OUTSIDE, x -> x.chance(6, 0, bad, 1));
            refusedInAll("chance(6, 0, " + bad + ", 2)", LOST + OUTSIDE, x -> x.chance(6, 0, bad, 2));
        }
        for (int bad : new int[] {-1, 2, -6, 32, 256, MIN, MAX}) {
            refusedInAll("chance(0, 6, 0, " + bad + ")", LOST + OUTSIDE, x -> x.chance(0, 6, 0, bad));
            refusedInAll("chance(0, 6, 10, " + bad + ")", LOST + OUTSIDE, x -> x.chance(0, 6, 10, bad));
        }
    }

    private static void sights() {
        for (int bad : NO_PLACES) {
            for (boolean nearer : new boolean[] {true, false}) {
                refusedInAll("seen(" + bad + ", 0, " + nearer + ")", UNKNOWN, x -> x.seen(bad, 0, nearer));
                refusedInAll("seen(11, " + bad + ", " + nearer + ")", UNKNOWN, x -> x.seen(11, bad, nearer));
                refusedInAll("seen(" + bad + ", " + bad + ", " + nearer + ")", UNKNOWN, x -> x.seen(bad, bad, nearer));
            }
        }
        refused("brim", "seen(0, 1, true)", FULL, x -> x.seen(0, 1, true));
        refused("brim", "seen(0, 1, false)", FULL, x -> x.seen(0, 1, false));
        refused("brim", "seen(11, 11, false)", FULL, x -> x.seen(11, 11, false));
        for (int bad : new int[] {-1, 2, -6, 32, 256, MIN, MAX}) {
            refusedInAll("ask(" + bad + ")", OUTSIDE, x -> x.ask(bad));
        }
    }

    private static void years() {
        for (int bad : new int[] {-1, 10000, -6, 65536, 65537, MIN, MAX}) {
            refusedInAll("year(" + bad + ", 1, 0)", OUTSIDE, x -> x.year(bad, 1, 0));
            refusedInAll("year(" + bad + ", 99, 2)", OUTSIDE, x -> x.year(bad, 99, 2));
        }
        for (int bad : new int[] {0, 100, -1, -6, 256, MIN, MAX}) {
            refusedInAll("year(0, " + bad + ", 0)", OUTSIDE, x -> x.year(0, bad, 0));
            refusedInAll("year(9999, " + bad + ", 2)", OUTSIDE, x -> x.year(9999, bad, 2));
        }
        for (int bad : new int[] {-1, 3, -6, 32, 256, MIN, MAX}) {
            refusedInAll("year(0, 1, " + bad + ")", OUTSIDE, x -> x.year(0, 1, bad));
            refusedInAll("year(9999, 99, " + bad + ")", OUTSIDE, x -> x.year(9999, 99, bad));
        }
        refusedInAll("year(-1, 0, 3)", OUTSIDE, x -> x.year(-1, 0, 3));
    }

    private static void imagesAndTold() {
        for (int bad : new int[] {-1, 2, -6, 32, 33, 256, MIN, MAX}) {
            refusedInAll("image(" + bad + ")", OUTSIDE, x -> x.image(bad));
            refusedInAll("restore(" + bad + ")", OUTSIDE, x -> x.restore(bad));
        }
        refused("bare", "restore(0)", STATE, x -> x.restore(0));
        refused("bare", "restore(1)", STATE, x -> x.restore(1));
        for (String state : new String[] {"lively", "faulty", "stuck"}) {
            refused(state, "restore(1)", STATE, x -> x.restore(1));
        }
        for (int bad : new int[] {-1, 8, 9, 80, 83, 90, 99, 112, 113, -6, -10, -100, 132, 256, 1000, MIN, MAX}) {
            refusedInAll("told(" + bad + ")", OUTSIDE, x -> x.told(bad));
        }
        for (int what = 10; what < 80; what++) {
            int w = what;
            int who = what / 10 - 1;
            if (what % 10 > 3) refusedInAll("told(" + w + ")", OUTSIDE, x -> x.told(w));
            else refused("bare", "told(" + w + ")", OUTSIDE, x -> x.told(w));
            if (who == 3 || who == 4 || who == 6) refused("lively", "told(" + w + ")", OUTSIDE, x -> x.told(w));
        }
    }

    // ---- calls that only ask, and are answered, change nothing

    private static void asked(String call, Call c) {
        for (String state : STATES) {
            TouchReign x = state(state);
            c.on(x);
            sameAsTwin(state, call, x);
        }
    }

    private static void questions() {
        List<String> names = new ArrayList<>();
        List<Call> calls = new ArrayList<>();
        for (int i = 0; i < 12; i++) {
            int p = i;
            names.add("ways from " + p);
            calls.add(x -> x.far(p, 11 - p) + x.rounds(p, 0) + x.heads(11, p) + x.flees(p, 1) + x.rounds(p, p));
            names.add("shade(" + p + ", ..)");
            calls.add(x -> x.shade(p, 0) + x.shade(p, 1));
            names.add("year(" + p * 900 + ", ..)");
            calls.add(x -> x.year(p * 900, 1 + p * 8, p % 3) + x.year(9999, 99, 0) + x.year(0, 1, 1));
        }
        for (int i = 0; i < 7; i++) {
            int w = i;
            names.add("may it be from " + w);
            calls.add(x -> x.maybe(w) + x.touches(w, 6 - w) + x.chance(w, 1, w, 0) + x.chance(0, w, 10, 1));
            names.add("behind(" + w + ", ..)");
            calls.add(x -> x.behind(w, 0) + x.behind(w, 1) + x.behind(w, 2));
        }
        names.add("fault(), judge(..), then(..)");
        calls.add(x -> x.fault() + x.judge(0) + x.judge(1) + x.then(0) + x.then(1) + x.then(2) + x.then(3) + x.then(4));
        names.add("lairs(), ask(..)");
        calls.add(x -> x.lairs() + x.ask(0) + x.ask(1));
        for (int i = 0; i < names.size(); i++) asked(names.get(i), calls.get(i));
    }

    // ---- calls that are taken change what they say, and nothing else that is told

    /** The pairs: what told() is asked, and what it answers behind the call; all else stays. */
    private static void changes(String state, String call, long want, Call c, int... pairs) {
        TouchReign x = state(state);
        Map<Integer, Long> before = told(x);
        due(state + ": " + call, c.on(x), want);
        for (int i = 0; i + 1 < pairs.length; i += 2) {
            Long old = before.put(pairs[i], (long) pairs[i + 1]);
            if (old == null || old == pairs[i + 1]) tell("the test itself: told(" + pairs[i] + ") is no change");
        }
        Map<Integer, Long> after = told(x);
        for (int what : before.keySet()) {
            due(state + ": behind " + call + " told(" + what + ")", after.get(what), before.get(what));
        }
    }

    private static void takenOnLand() {
        changes("lively", "road(11, 10, true)", 9, x -> x.road(11, 10, true), 111, 1 << 10, 110, 1 << 11);
        changes("lively", "road(0, 1, true)", 8, x -> x.road(0, 1, true));
        changes("lively", "road(7, 6, false)", 7, x -> x.road(7, 6, false), 106, 0, 107, 0);
        changes("lively", "road(8, 9, false)", 8, x -> x.road(8, 9, false));
        changes("lively", "home(0, true)", 1 + 16 + 512, x -> x.home(0, true), 5, 529);
        changes("lively", "home(4, true)", 528, x -> x.home(4, true));
        changes("lively", "home(9, false)", 16, x -> x.home(9, false), 5, 16);
        changes("lively", "home(11, false)", 528, x -> x.home(11, false));
        changes("bare", "one(6, 11, 9)", 1, x -> x.one(6, 11, 9), 1, 64, 70, 11, 71, 9, 72, 0, 73, 0);
        changes("bare", "one(0, 0, 0)", 1, x -> x.one(0, 0, 0), 1, 1, 10, 0, 11, 0, 12, 0, 13, 0);
        changes("lively", "one(1, 11, 9) anew", 4, x -> x.one(1, 11, 9), 20, 11, 21, 9, 22, 0, 23, 0);
        changes("brim", "one(6, 0, 0) anew", 7, x -> x.one(6, 0, 0), 70, 0, 71, 0, 73, 0);
        changes("lively", "leave(5)", 3, x -> x.leave(5), 1, 7, 60, OUTSIDE, 61, OUTSIDE, 62, OUTSIDE, 63, OUTSIDE);
        changes("lively", "leave(0), LAST", 3, x -> x.leave(0), 1, 38, 3, NONE, 10, OUTSIDE, 11, OUTSIDE, 12, OUTSIDE,
            13, OUTSIDE);
        changes("lively", "leave(1), KING", 3, x -> x.leave(1), 1, 37, 2, NONE, 20, OUTSIDE, 21, OUTSIDE, 22, OUTSIDE,
            23, OUTSIDE);
        changes("lively", "crown(5)", 1, x -> x.crown(5), 2, 5, 3, NONE);
        changes("lively", "crown(1), who is", 1, x -> x.crown(1), 3, NONE);
        changes("lively", "crown(-1)", 1, x -> x.crown(-1), 2, NONE, 3, NONE);
        changes("bare", "crown(-1)", NONE, x -> x.crown(-1));
        changes("brim", "crown(0)", 6, x -> x.crown(0), 2, 0);
    }

    private static void takenOfDays() {
        changes("lively", "say(33)", 9, x -> x.say(33), 0, 9);
        changes("bare", "say(126)", 1, x -> x.say(126), 0, 1);
        changes("brim", "wipe()", 60, x -> x.wipe(), 0, 0);
        changes("bare", "wipe()", 0, x -> x.wipe());
        changes("lively", "done()", 4, x -> x.done(), 0, 0, 2, 2, 3, 1, 4, 2, 21, 2, 22, 0, 33, 1);
        changes("bare", "done()", 0, x -> x.done());
        changes("brim", "done()", 30, x -> x.done(), 0, 0, 10, 1, 11, 0);
        changes("lively", "met(6, 0)", 4, x -> x.met(6, 0), 6, 4);
        changes("lively", "unmeet()", 3, x -> x.unmeet(), 6, 0);
        changes("brim", "unmeet()", 8, x -> x.unmeet(), 6, 0);
        changes("bare", "unmeet()", 0, x -> x.unmeet());
        changes("lively", "seen(11, 0, true)", 3, x -> x.seen(11, 0, true), 7, 3);
        changes("lively", "forget()", 2, x -> x.forget(), 7, 0);
        changes("brim", "forget()", 8, x -> x.forget(), 7, 0);
        changes("bare", "forget()", 0, x -> x.forget());
        for (String state : STATES) {
            changes(state, "image(0)", 1, x -> x.image(0));
            changes(state, "image(1)", 1, x -> x.image(1));
            changes(state, "image(0), restore(0)", 1, x -> x.image(0) * x.restore(0));
        }
        changes("lively", "restore(0)", 1, x -> x.restore(0), 2, 0, 3, NONE, 4, 0, 5, 16, 6, 1, 7, 1, 10, 0, 11, 5,
            22, 0, 23, 0, 100, 34, 102, 10);
        changes("brim", "restore(0)", 1, x -> x.restore(0), 5, 2048);
    }

    public static void main(String[] args) {
        roadsAndHomes();
        comingOnes();
        goingAndCrowns();
        signs();
        judging();
        behindAndThen();
        waysAndShade();
        meetings();
        chances();
        sights();
        years();
        imagesAndTold();
        questions();
        takenOnLand();
        takenOfDays();
        System.out.println(wrong == 0 ? refusals + " refused calls change nothing" : wrong + " faults");
        if (wrong != 0) System.exit(1);
    }
}
