import java.math.BigInteger;

/**
 * The document sentence by sentence, at its bounds: the least, the greatest, the empty and the full case. Each method
 * begins with the words that it holds the class to. Refused calls are in RefusalTest.
 */
public final class EdgeTest {
    private static final int NONE = -6, UNKNOWN = -1, OUTSIDE = -2, STATE = -3, FULL = -4, NO = -5;
    private static int wrong = 0;
    private static String words = "";

    private static void sentence(String text) {
        words = text;
    }

    private static void due(String call, long got, long want) {
        if (got != want) {
            wrong++;
            System.out.println("'" + words + "': " + call + " answered " + got + ", due is " + want);
        }
    }

    private static void write(TouchReign x, String text) {
        x.wipe();
        for (int i = 0; i < text.length(); i++) x.say(text.charAt(i));
    }

    private static void does(TouchReign x, String text, int acts) {
        write(x, text);
        due(text + ": done()", x.done(), acts);
    }

    private static void judged(TouchReign x, String text, int act, int why) {
        write(x, text);
        due(text + ": judge(0)", x.judge(0), act);
        due(text + ": judge(1)", x.judge(1), why);
    }

    private static void can(TouchReign x, String text) {
        judged(x, text, NONE, NONE);
    }

    private static char one(int who) {
        return (char) ('A' + who);
    }

    private static char place(int place) {
        return (char) ('a' + place);
    }

    private static String times(String text, int n) {
        StringBuilder all = new StringBuilder();
        for (int i = 0; i < n; i++) all.append(text);
        return all.toString();
    }

    private static TouchReign path(int n) {
        TouchReign x = new TouchReign();
        for (int i = 0; i + 1 < n; i++) x.road(i, i + 1, true);
        return x;
    }

    private static TouchReign ring(int n) {
        TouchReign x = path(n);
        x.road(n - 1, 0, true);
        return x;
    }

    /** The first of them in the middle, with a ROAD to each of the others. */
    private static TouchReign star(int middle) {
        TouchReign x = new TouchReign();
        for (int i = 0; i < 12; i++) if (i != middle) x.road(middle, i, true);
        return x;
    }

    private static TouchReign net() {
        TouchReign x = new TouchReign();
        for (int a = 0; a < 12; a++) for (int b = 0; b < a; b++) x.road(a, b, true);
        return x;
    }

    /** A, B, C in a, and D in b; a ROAD between both; A is KING. */
    private static TouchReign court() {
        TouchReign x = path(2);
        for (int who = 0; who < 3; who++) x.one(who, 0, 5);
        x.one(3, 1, 5);
        x.crown(0);
        return x;
    }

    private static TouchReign atMinute(int minute) {
        TouchReign x = court();
        if (minute > 60) does(x, times(".", 60), 60);
        does(x, times(".", minute > 60 ? minute - 60 : minute), minute > 60 ? minute - 60 : minute);
        return x;
    }

    private static TouchReign met(int... pairs) {
        TouchReign x = new TouchReign();
        for (int i = 0; i + 1 < pairs.length; i += 2) x.met(pairs[i], pairs[i + 1]);
        return x;
    }

    // ---- promise 1, and what is so at first

    private static void newObject() {
        sentence("Nobody is there; there are no ROADS");
        TouchReign x = new TouchReign();
        due("told(1)", x.told(1), 0);
        for (int p = 0; p < 12; p++) due("told(" + (100 + p) + ")", x.told(100 + p), 0);
        for (int who = 0; who < 7; who++) due("leave(" + who + ")", x.leave(who), UNKNOWN);
        due("road(0, 1, false)", x.road(0, 1, false), 0);
        sentence("some are HOME (none at first)");
        due("told(5)", x.told(5), 0);
        due("home(0, false)", x.home(0, false), 0);
        sentence("One of them is KING, or nobody (at first); LAST, or nobody (at first); minute 0 at first");
        due("told(2)", x.told(2), NONE);
        due("told(3)", x.told(3), NONE);
        due("told(4)", x.told(4), 0);
        due("crown(-1)", x.crown(-1), NONE);
        sentence("a new object has no sign, no MEETING, no SIGHT, no IMAGE");
        due("told(0)", x.told(0), 0);
        due("told(6)", x.told(6), 0);
        due("told(7)", x.told(7), 0);
        due("wipe()", x.wipe(), 0);
        due("unmeet()", x.unmeet(), 0);
        due("forget()", x.forget(), 0);
        due("restore(0)", x.restore(0), STATE);
        due("restore(1)", x.restore(1), STATE);
        sentence("an object has nothing of another one");
        TouchReign y = court();
        y.image(0);
        y.met(0, 1);
        y.seen(0, 1, true);
        write(y, "A");
        TouchReign z = new TouchReign();
        for (int what : new int[] {0, 1, 4, 5, 6, 7, 100, 101}) due("told(" + what + ")", z.told(what), 0);
        due("restore(0)", z.restore(0), STATE);
    }

    // ---- promises 2 and 3

    private static void roads() {
        sentence("ROADS lead between two of them, both ways");
        for (int a = 0; a < 12; a++) {
            TouchReign x = new TouchReign();
            for (int b = 0; b < 12; b++) {
                if (a == b) continue;
                due("road(" + a + ", " + b + ", true)", x.road(a, b, true), 1);
                due("told(100 + " + a + ")", x.told(100 + a), 1 << b);
                due("told(100 + " + b + ")", x.told(100 + b), 1 << a);
                due("far there", x.far(a, b), 1);
                due("far back", x.far(b, a), 1);
                due("road(" + b + ", " + a + ", false)", x.road(b, a, false), 0);
                due("told(100 + " + a + ")", x.told(100 + a), 0);
                due("told(100 + " + b + ")", x.told(100 + b), 0);
            }
        }
        sentence("how many ROADS there are: none to 66, told twice or taken twice the same");
        TouchReign x = new TouchReign();
        int count = 0;
        for (int a = 0; a < 12; a++) for (int b = 0; b < a; b++) due("road", x.road(a, b, true), ++count);
        due("all ROADS", count, 66);
        for (int p = 0; p < 12; p++) due("told(100 + " + p + ")", x.told(100 + p), 4095 ^ 1 << p);
        due("road(0, 11, true) again", x.road(0, 11, true), 66);
        due("road(11, 0, true), the other way", x.road(11, 0, true), 66);
        for (int a = 0; a < 12; a++) for (int b = 0; b < a; b++) due("no road", x.road(b, a, false), --count);
        due("road(0, 11, false) again", x.road(0, 11, false), 0);
    }

    private static void homes() {
        sentence("A PLACE is HOME, or not: which are, as bits: none to all twelve");
        TouchReign x = new TouchReign();
        int set = 0;
        for (int p = 11; p >= 0; p--) {
            set |= 1 << p;
            due("home(" + p + ", true)", x.home(p, true), set);
            due("home(" + p + ", true) again", x.home(p, true), set);
        }
        due("all twelve", x.told(5), 4095);
        for (int p = 0; p < 12; p++) {
            set &= ~(1 << p);
            due("home(" + p + ", false)", x.home(p, false), set);
            due("home(" + p + ", false) again", x.home(p, false), set);
        }
        due("none", x.told(5), 0);
    }

    // ---- promises 4, 5, 6

    private static void ones() {
        sentence("A ONE is there: how many are: 1 to 7");
        TouchReign x = new TouchReign();
        for (int who = 6; who >= 0; who--) {
            due("one(" + who + ", ..)", x.one(who, who + 5, who), 7 - who);
            due("told(1)", x.told(1), 127 & -1 << who);
        }
        due("one(3, ..) anew", x.one(3, 0, 0), 7);
        sentence("each is in a PLACE, has BREATH (0 to 9), FINGERS not crossed, REIGNED 0 at first");
        for (int p = 0; p < 12; p++) {
            for (int breath = 0; breath <= 9; breath += 9) {
                due("one(6, " + p + ", " + breath + ")", x.one(6, p, breath), 7);
                due("told(70)", x.told(70), p);
                due("told(71)", x.told(71), breath);
                due("told(72)", x.told(72), 0);
                due("told(73)", x.told(73), 0);
            }
        }
        for (int breath = 0; breath <= 9; breath++) {
            x.one(0, 0, breath);
            due("told(11)", x.told(11), breath);
        }
        sentence("anew: FINGERS not crossed, REIGNED 0; KING, LAST stay");
        x = court();
        does(x, ".A>B.A*B*", 5);
        due("REIGNED", x.told(13) * 10 + x.told(23), 11);
        due("FINGERS", x.told(12) * 10 + x.told(22), 11);
        x.one(1, 1, 9);
        due("the KING anew: told(20)", x.told(20), 1);
        due("told(21)", x.told(21), 9);
        due("told(22)", x.told(22), 0);
        due("told(23)", x.told(23), 0);
        x.one(0, 1, 0);
        due("LAST anew: told(12)", x.told(12), 0);
        due("told(13)", x.told(13), 0);
        due("KING stays", x.told(2), 1);
        due("LAST stays", x.told(3), 0);
        due("the minute stays", x.told(4), 2);
        judged(x, "B>A", 0, 8);
        sentence("one who comes back is neither KING nor LAST, FINGERS not crossed, REIGNED 0");
        x = court();
        does(x, ".A*", 2);
        x.leave(0);
        due("one(0, 2, 3)", x.one(0, 2, 3), 4);
        due("told(2)", x.told(2), NONE);
        due("told(12)", x.told(12), 0);
        due("told(13)", x.told(13), 0);
    }

    private static void leaving() {
        sentence("A ONE is no more: how many are: 6 to 0; UNKNOWN: he was not");
        TouchReign x = new TouchReign();
        for (int who = 0; who < 7; who++) x.one(who, 0, 9);
        int set = 127;
        for (int who : new int[] {3, 0, 6, 5, 1, 4, 2}) {
            set &= ~(1 << who);
            due("leave(" + who + ")", x.leave(who), Integer.bitCount(set));
            due("leave(" + who + ") again", x.leave(who), UNKNOWN);
            due("crown(" + who + ")", x.crown(who), UNKNOWN);
            due("told of " + who, x.told(10 + 10 * who), OUTSIDE);
            due("behind(" + who + ", 0)", x.behind(who, 0), UNKNOWN);
            due("told(1)", x.told(1), set);
        }
        sentence("was he KING, nobody is");
        x = court();
        due("leave(0)", x.leave(0), 3);
        due("told(2)", x.told(2), NONE);
        due("crown(1)", x.crown(1), NONE);
        sentence("was he LAST, nobody is");
        x = court();
        does(x, "A>B", 1);
        due("leave(0)", x.leave(0), 3);
        due("told(2)", x.told(2), 1);
        due("told(3)", x.told(3), NONE);
        x.one(0, 0, 0);
        can(x, "B>A");
        sentence("was he neither, KING and LAST stay");
        x = court();
        does(x, "A>B", 1);
        due("leave(2)", x.leave(2), 3);
        due("told(2)", x.told(2), 1);
        due("told(3)", x.told(3), 0);
    }

    private static void crowns() {
        sentence("He is KING, or nobody (-1): who it was (NONE)");
        TouchReign x = new TouchReign();
        for (int who = 0; who < 7; who++) x.one(who, 0, 0);
        int before = NONE;
        for (int who : new int[] {0, 6, 3, 3, -1, -1, 5}) {
            due("crown(" + who + ")", x.crown(who), before);
            before = who == -1 ? NONE : who;
            due("told(2)", x.told(2), before);
        }
        sentence("LAST is nobody");
        for (int who : new int[] {-1, 0, 1, 2}) {
            x = court();
            does(x, "A>B", 1);
            due("told(3)", x.told(3), 0);
            due("crown(" + who + ")", x.crown(who), 1);
            due("told(3)", x.told(3), NONE);
        }
        x = court();
        does(x, "A>B", 1);
        judged(x, "B>A", 0, 8);
        x.crown(1);
        can(x, "B>A");
        sentence("crown: he keeps what he REIGNED");
        does(x, "B>A..", 3);
        x.crown(0);
        due("told(13)", x.told(13), 2);
    }

    // ---- promises 7, 8, 9

    private static void signs() {
        sentence("60 SIGNS at most, codes 33 to 126");
        TouchReign x = new TouchReign();
        int size = 0;
        for (int sign = 33; sign <= 126; sign++) {
            if (size == 60) {
                due("say(" + sign + "), the 61st", x.say(sign), FULL);
                due("wipe()", x.wipe(), 60);
                size = 0;
            }
            due("say(" + sign + ")", x.say(sign), ++size);
            due("told(0)", x.told(0), size);
        }
        due("wipe()", x.wipe(), 34);
        sentence("a PAD of 60 is read to its end");
        x = court();
        String round = "A>BB>CC>A";
        write(x, times(round, 6) + "A>BB>C");
        due("say, the 61st", x.say('.'), FULL);
        due("told(0)", x.told(0), 60);
        due("fault()", x.fault(), NONE);
        due("judge(0)", x.judge(0), NONE);
        due("then(0)", x.then(0), 2);
        due("then(3)", x.then(3), 20);
        due("done()", x.done(), 20);
        due("told(0)", x.told(0), 0);
        due("told(3)", x.told(3), 1);
        due("say, the first again", x.say('.'), 1);
        sentence("Signs go: how many there were");
        due("wipe()", x.wipe(), 1);
        due("wipe() of none", x.wipe(), 0);
        due("told(2) stays", x.told(2), 2);
        write(x, "A>");
        x.wipe();
        due("fault() of none", x.fault(), NONE);
        due("done() of none", x.done(), 0);
    }

    /** What may stand at each of the three places of an ACT, by the document's words. */
    private static boolean mayStand(int at, char sign) {
        switch (at) {
            case 0: return ".ABCDEFG".indexOf(sign) >= 0;
            case 1: return "abcdefghijkl>+*".indexOf(sign) >= 0;
            default: return "ABCDEFG".indexOf(sign) >= 0;
        }
    }

    private static void faults() {
        String[] heads = {"", "G", "G>"};
        String[] befores = {"", ".", "A+", "Ba", "C>D", times(".", 56)};
        for (String before : befores) {
            for (int at = 0; at < 3; at++) {
                TouchReign x = new TouchReign();
                for (char sign = 33; sign <= 126; sign++) {
                    // an object is good for 512 calls
                    if (sign % 6 == 0) x = new TouchReign();
                    String text = before + heads[at] + sign;
                    write(x, text);
                    sentence("THE FAULT: the place (from 0 on) of the first sign that can not stand there");
                    int want = text.length() - 1;
                    if (mayStand(at, sign)) {
                        sentence("the number of signs, if more must come; NONE");
                        boolean whole = at == 2 || at == 1 && sign != '>' || sign == '.';
                        want = whole ? NONE : text.length();
                    }
                    due(text + ": fault()", x.fault(), want);
                }
            }
        }
        sentence("THE FAULT is the first of several");
        TouchReign x = new TouchReign();
        String[] texts = {"!!", "A!!", ".!A", "A>!!", "A+!A>", "HA", "AaH", "A>BB>H.", "aA", "AAa"};
        int[] wants = {0, 1, 1, 2, 2, 0, 2, 5, 0, 1};
        for (int i = 0; i < texts.length; i++) {
            write(x, texts[i]);
            due(texts[i] + ": fault()", x.fault(), wants[i]);
        }
        sentence("THE FAULT of a full PAD");
        write(x, times(".", 59) + "+");
        due("fault() at its last sign", x.fault(), 59);
        x = new TouchReign();
        write(x, times(".", 59) + "A");
        due("fault() behind its last sign", x.fault(), 60);
        x = new TouchReign();
        write(x, times(".", 58) + "A>");
        due("fault() behind its last sign", x.fault(), 60);
        x = new TouchReign();
        write(x, times(".", 60));
        due("fault() of none", x.fault(), NONE);
    }

    // ---- the ACTS

    private static void running() {
        sentence("PLACES 0 to 11 (a to l): he runs there along a ROAD");
        for (int from = 0; from < 12; from++) {
            TouchReign x = star(from);
            for (int to = 0; to < 12; to++) {
                x.one(2, from, 1);
                if (to == from) {
                    judged(x, "C" + place(to), 0, 2);
                    continue;
                }
                write(x, "C" + place(to));
                due("behind(2, 0)", x.behind(2, 0), to);
                x.one(2, to, 1);
                write(x, "C" + place(from));
                due("behind(2, 0), the other way", x.behind(2, 0), from);
            }
        }
        sentence("BREATH 1 less; 3 BREATH is 0 (he runs)");
        TouchReign x = path(3);
        for (int breath = 0; breath <= 9; breath++) {
            x.one(0, 1, breath);
            x.one(1, 1, 4);
            judged(x, "Aa", breath == 0 ? 0 : NONE, breath == 0 ? 3 : NONE);
            if (breath == 0) continue;
            due("behind(0, 1)", x.behind(0, 1), breath - 1);
            due("behind(1, 1)", x.behind(1, 1), 4);
            due("behind(1, 0)", x.behind(1, 0), 1);
            judged(x, times("AaAb", 5), breath == 9 ? 9 : breath, 3);
        }
        sentence("he runs with HOME at each end, KING or not");
        x = court();
        x.home(0, true);
        x.home(1, true);
        can(x, "AbBbBaAa");
    }

    private static void resting() {
        sentence("+ (he rests: BREATH 2 more, 9 at most)");
        int[] wants = {2, 3, 4, 5, 6, 7, 8, 9, 9, 9};
        for (int breath = 0; breath <= 9; breath++) {
            TouchReign x = path(2);
            x.one(6, 0, breath);
            x.one(0, 0, 1);
            can(x, "G+");
            due(breath + " and 2", x.behind(6, 1), wants[breath]);
            due("the other one's", x.behind(0, 1), 1);
            can(x, "G+G+G+G+G+G+");
            due("at most", x.behind(6, 1), 9);
        }
        sentence("he rests with FINGERS crossed, at HOME, at BREATH 9");
        TouchReign x = court();
        x.home(0, true);
        x.one(1, 0, 9);
        can(x, "B*B+A*A+");
        due("behind(1, 1)", x.behind(1, 1), 9);
        due("behind(0, 1)", x.behind(0, 1), 7);
    }

    private static void fingers() {
        sentence("* (FINGERS are crossed, or not any more)");
        TouchReign x = court();
        x.one(4, 0, 0);
        for (int i = 1; i <= 4; i++) {
            does(x, "E*", 1);
            due("told(52)", x.told(52), i % 2);
            due("told(12)", x.told(12), 0);
        }
        does(x, "E*E*E*", 3);
        due("told(52)", x.told(52), 1);
        due("BREATH stays", x.told(51), 0);
    }

    private static void touching() {
        sentence("> and a ONE's letter (he touches that one, who is KING then; LAST is who touched him), A to G");
        for (int who = 0; who < 7; who++) {
            TouchReign x = new TouchReign();
            for (int i = 0; i < 7; i++) x.one(i, 11, 0);
            for (int whom = 0; whom < 7; whom++) {
                x.crown(who);
                if (who == whom) {
                    judged(x, one(who) + ">" + one(whom), 0, 2);
                    continue;
                }
                write(x, one(who) + ">" + one(whom));
                due("then(0)", x.then(0), whom);
                due("then(1)", x.then(1), who);
                due("then(3)", x.then(3), 1);
                due("then(4)", x.then(4), 0);
                due("BREATH stays", x.behind(who, 1) + x.behind(whom, 1), 0);
                due("PLACE stays", x.behind(whom, 0), 11);
                due("done()", x.done(), 1);
                due("told(2)", x.told(2), whom);
                due("told(3)", x.told(3), who);
            }
        }
    }

    private static void minutes() {
        sentence(". (a minute passes: the KING, if there is one, has REIGNED 1 more)");
        TouchReign x = court();
        does(x, "..A>B.B>C...", 8);
        due("told(13)", x.told(13), 2);
        due("told(23)", x.told(23), 1);
        due("told(33)", x.told(33), 3);
        due("told(43)", x.told(43), 0);
        due("told(4)", x.told(4), 6);
        x.crown(-1);
        does(x, "..", 2);
        due("of nobody: told(4)", x.told(4), 8);
        due("of nobody", x.told(13) + x.told(23) + x.told(33) + x.told(43), 6);
        x = new TouchReign();
        does(x, ".", 1);
        due("with no ONE: told(4)", x.told(4), 1);
        sentence("9 it is minute 99 (.)");
        x = atMinute(98);
        due("told(4)", x.told(4), 98);
        judged(x, "..", 1, 9);
        does(x, ".", 1);
        due("told(4)", x.told(4), 99);
        due("told(13)", x.told(13), 99);
        judged(x, ".", 0, 9);
        due("done()", x.done(), NO);
        due("then(2)", x.then(2), NO);
        judged(x, "A+.", 1, 9);
        can(x, "A>BB+C*DaDb");
        due("then(2)", x.then(2), 99);
        x.crown(-1);
        judged(x, ".", 0, 9);
    }

    // ---- the reasons: each alone, and the least where two fit

    private static void reasonsOfRunning() {
        sentence("1 there is no such ONE");
        TouchReign x = court();
        for (int who = 4; who < 7; who++) {
            judged(x, one(who) + "a", 0, 1);
            judged(x, one(who) + "l", 0, 1);
            judged(x, one(who) + "+", 0, 1);
            judged(x, one(who) + "*", 0, 1);
        }
        sentence("2 there is no such ROAD (he runs)");
        judged(x, "Ac", 0, 2);
        judged(x, "Aa", 0, 2);
        judged(x, "AbAb", 1, 2);
        x.road(0, 1, false);
        judged(x, "Ab", 0, 2);
        x.road(0, 1, true);
        sentence("4 his FINGERS are crossed (he runs)");
        judged(x, "A*Ab", 1, 4);
        can(x, "A*A*Ab");
        sentence("the least of these reasons (he runs)");
        x.one(1, 0, 0);
        judged(x, "Bc", 0, 2);
        judged(x, "Bb", 0, 3);
        judged(x, "B*Bb", 1, 3);
        judged(x, "B*Bc", 1, 2);
        judged(x, "C*Cc", 1, 2);
    }

    private static void reasonsOfTouching() {
        sentence("1 there is no such ONE (one of both)");
        TouchReign x = court();
        judged(x, "A>E", 0, 1);
        judged(x, "E>A", 0, 1);
        judged(x, "E>F", 0, 1);
        judged(x, "G>G", 0, 1);
        judged(x, "B>G", 0, 1);
        judged(x, "A*A>G", 1, 1);
        sentence("2 both are one (he touches)");
        judged(x, "A>A", 0, 2);
        judged(x, "B>B", 0, 2);
        judged(x, "A*A>A", 1, 2);
        judged(x, "B*B>B", 1, 2);
        sentence("3 he is not KING (he touches)");
        judged(x, "B>C", 0, 3);
        judged(x, "B>A", 0, 3);
        judged(x, "A>BA>C", 1, 3);
        judged(x, "B*B>C", 1, 3);
        judged(x, "B>D", 0, 3);
        judged(x, "C*B>C", 1, 3);
        judged(x, "A>BC>A", 1, 3);
        x.crown(-1);
        judged(x, "A>B", 0, 3);
        x.crown(0);
        sentence("4 his FINGERS are crossed (he touches)");
        judged(x, "A*A>B", 1, 4);
        judged(x, "A*A>D", 1, 4);
        judged(x, "A*B*A>B", 2, 4);
        judged(x, "A>BB*B>A", 2, 4);
        can(x, "A*A*A>B");
        sentence("5 the other one is in another PLACE");
        judged(x, "A>D", 0, 5);
        judged(x, "D*A>D", 1, 5);
        judged(x, "A>BAbB>A", 2, 5);
        can(x, "AbA>D");
        can(x, "DaA>D");
        sentence("6 the other one's FINGERS are crossed");
        judged(x, "B*A>B", 1, 6);
        judged(x, "A>BA*B>A", 2, 6);
        can(x, "B*B*A>B");
        can(x, "C*A>B");
        sentence("8 the other one is LAST");
        judged(x, "A>BB>A", 1, 8);
        can(x, "A>BB>CC>A");
        can(x, "A>BB>CC>AA>B");
        judged(x, "A>BB>CC>AA>C", 3, 8);
    }

    private static void reasonsAtHome() {
        sentence("7 the PLACE is HOME");
        TouchReign x = court();
        x.home(0, true);
        judged(x, "A>B", 0, 7);
        can(x, "AbA>D");
        judged(x, "B>C", 0, 3);
        judged(x, "A>A", 0, 2);
        judged(x, "A*A>B", 1, 4);
        judged(x, "A>D", 0, 5);
        judged(x, "AbA>B", 1, 5);
        judged(x, "B*A>B", 1, 6);
        x.home(0, false);
        x.home(1, true);
        can(x, "A>B");
        judged(x, "AbA>D", 1, 7);
        sentence("7 ahead of 8");
        x.home(1, false);
        does(x, "A>B", 1);
        x.home(0, true);
        judged(x, "B>A", 0, 7);
        x.home(0, false);
        judged(x, "B>A", 0, 8);
    }

    // ---- promises 10 to 13

    private static void judging() {
        sentence("JUDGED: of DAYS the first ACT (from 0 on) that can not be, and why; NONE");
        TouchReign x = court();
        can(x, "");
        judged(x, "D>A", 0, 3);
        judged(x, "D>AE+Ac", 0, 3);
        judged(x, ".Ab.A+.A>DD>A.", 6, 8);
        judged(x, "E+" + times(".", 58), 0, 1);
        judged(x, times(".", 57) + "A>A", 57, 2);
        judged(x, times("A*", 29) + "Ab", 29, 4);
        can(x, times("A*", 28) + "AbAa");
        sentence("judge: NO: there is a FAULT, wherever it is");
        write(x, "E+Ac!");
        due("judge(0)", x.judge(0), NO);
        due("judge(1)", x.judge(1), NO);
        write(x, "A+A");
        due("judge(0)", x.judge(0), NO);
        sentence("an ACT goes by what is so behind the ones ahead of it");
        can(x, "AbA>DDaD>B");
        judged(x, "AbA>DDaD>A", 3, 5);
    }

    private static void doing() {
        sentence("DONE: all is so then; DAYS on the PAD are DONE (it is empty then): ACTS");
        TouchReign x = court();
        due("done() of none", x.done(), 0);
        write(x, "B*");
        due("done()", x.done(), 1);
        due("told(0)", x.told(0), 0);
        due("done() again", x.done(), 0);
        due("told(22)", x.told(22), 1);
        does(x, times("A+", 29) + "A*", 30);
        due("told(11)", x.told(11), 9);
        due("told(12)", x.told(12), 1);
        does(x, "A*" + times(".", 58), 59);
        due("told(4)", x.told(4), 58);
        sentence("done: NO: there is a FAULT, or an ACT that can not be; nothing of it is DONE then");
        write(x, "A+.A>CE+");
        due("done()", x.done(), NO);
        due("told(0)", x.told(0), 8);
        due("told(2)", x.told(2), 0);
        due("told(4)", x.told(4), 58);
        write(x, "A>C.C>");
        due("done()", x.done(), NO);
        due("told(0)", x.told(0), 6);
        due("told(2)", x.told(2), 0);
        x.say('B');
        judged(x, "A>C.C>B", 2, 6);
        x.say('.');
        due("done()", x.done(), NO);
        due("told(4)", x.told(4), 58);
    }

    private static void beyond() {
        sentence("BEHIND, not being DONE: of no sign, all is as it is");
        TouchReign x = court();
        due("behind(3, 0)", x.behind(3, 0), 1);
        due("behind(3, 1)", x.behind(3, 1), 5);
        due("behind(3, 2)", x.behind(3, 2), 0);
        int[] plain = {0, NONE, 0, 0, NONE};
        for (int what = 0; what < 5; what++) due("then(" + what + ")", x.then(what), plain[what]);
        sentence("of all: who is KING, who is LAST (NONE), the minute, how many touches, the first ACT that is one");
        write(x, "A>B.");
        int[] first = {1, 0, 1, 1, 0};
        for (int what = 0; what < 5; what++) due("then(" + what + ")", x.then(what), first[what]);
        write(x, "B+.A*A*.A>BB>C");
        int[] later = {2, 1, 2, 2, 5};
        for (int what = 0; what < 5; what++) due("then(" + what + ")", x.then(what), later[what]);
        write(x, times(".", 57) + "A>C");
        int[] end = {2, 0, 57, 1, 57};
        for (int what = 0; what < 5; what++) due("then(" + what + ")", x.then(what), end[what]);
        due("nothing is DONE", x.told(2) + x.told(4), 0);
        sentence("touches and the first are of the DAYS on the PAD alone");
        does(x, "A>BB>C", 2);
        due("then(3)", x.then(3), 0);
        due("then(4)", x.then(4), NONE);
        due("then(0)", x.then(0), 2);
        due("then(1)", x.then(1), 1);
        write(x, "+");
        sentence("NO, as of done()");
        for (int what = 0; what < 5; what++) due("then(" + what + ")", x.then(what), NO);
        for (int what = 0; what < 3; what++) due("behind(0, " + what + ")", x.behind(0, what), NO);
        write(x, "Cl");
        for (int what = 0; what < 5; what++) due("then(" + what + ")", x.then(what), NO);
        for (int what = 0; what < 3; what++) due("behind(0, " + what + ")", x.behind(0, what), NO);
        x.leave(3);
        due("behind(3, 0)", x.behind(3, 0), UNKNOWN);
        due("behind(3, 3)", x.behind(3, 3), UNKNOWN);
        due("behind(2, 3)", x.behind(2, 3), OUTSIDE);
    }

    private static void beyondOfNobody() {
        sentence("then: KING, LAST NONE where nobody is");
        TouchReign x = new TouchReign();
        int[] nobody = {NONE, NONE, 0, 0, NONE};
        for (int what = 0; what < 5; what++) due("then(" + what + ")", x.then(what), nobody[what]);
        write(x, "..");
        due("then(2)", x.then(2), 2);
        due("then(0)", x.then(0), NONE);
        sentence("BEHIND: of a ONE how long he REIGNED, with what he had");
        x = atMinute(10);
        write(x, "..A>B.");
        due("behind(0, 2)", x.behind(0, 2), 12);
        due("behind(1, 2)", x.behind(1, 2), 1);
        due("behind(2, 2)", x.behind(2, 2), 0);
        due("then(2)", x.then(2), 13);
    }

    // ---- promise 14

    private static void far() {
        sentence("FAR: the fewest ROADS (0: it is that one); NONE: no ROADS at all");
        TouchReign x = new TouchReign();
        for (int a = 0; a < 12; a++) {
            for (int b = 0; b < 12; b++) due("far(" + a + ", " + b + ")", x.far(a, b), a == b ? 0 : NONE);
        }
        sentence("FAR: 11 at the most");
        x = path(12);
        for (int a = 0; a < 12; a++) {
            for (int b = 0; b < 12; b++) due("far(" + a + ", " + b + ")", x.far(a, b), Math.abs(a - b));
        }
        sentence("FAR: all ROADS");
        x = net();
        for (int b = 0; b < 12; b++) due("far(5, " + b + ")", x.far(5, b), b == 5 ? 0 : 1);
        sentence("FAR: round a ring both ways");
        x = ring(12);
        for (int b = 0; b < 12; b++) due("far(0, " + b + ")", x.far(0, b), b <= 6 ? b : 12 - b);
        for (int b = 0; b < 12; b++) due("far(11, " + b + ")", x.far(11, b), b <= 5 ? b + 1 : 11 - b);
        sentence("FAR: HOME and ONES no matter");
        for (int p = 0; p < 12; p++) x.home(p, true);
        due("far(0, 6)", x.far(0, 6), 6);
        sentence("FAR: NONE over a gap");
        x.road(0, 11, false);
        x.road(5, 6, false);
        due("far(0, 5)", x.far(0, 5), 5);
        due("far(0, 6)", x.far(0, 6), NONE);
        due("far(11, 6)", x.far(11, 6), 5);
        due("far(11, 0)", x.far(11, 0), NONE);
    }

    // ---- promises 15, 16, 17

    private static void chased(TouchReign x, int king, int other, int rounds, int heads, int flees) {
        String pair = "(" + king + ", " + other + ")";
        due("rounds" + pair, x.rounds(king, other), rounds);
        due("heads" + pair, x.heads(king, other), heads);
        due("flees" + pair, x.flees(king, other), flees);
    }

    private static void chaseOnEmptyAndFullLand() {
        sentence("CHASE with no ROAD: 0 where he is touched already, else NONE");
        TouchReign x = new TouchReign();
        for (int k = 0; k < 12; k++) {
            for (int o = 0; o < 12; o++) chased(x, k, o, k == o ? 0 : NONE, NONE, k == o ? NONE : o);
        }
        sentence("CHASE with all ROADS: 1 ROUND");
        x = net();
        for (int k = 0; k < 12; k++) {
            // he goes anywhere but to where the KING is, as it is 1 ROUND from all of these
            for (int o = 0; o < 12; o++) chased(x, k, o, k == o ? 0 : 1, k == o ? NONE : o, k == o ? NONE : k == 0 ? 1 : 0);
        }
        sentence("CHASE where all is HOME: he is never touched, whoever is where");
        x = path(4);
        for (int p = 0; p < 12; p++) x.home(p, true);
        for (int k = 0; k < 12; k++) {
            for (int o = 0; o < 12; o++) chased(x, k, o, NONE, NONE, o == 0 || o > 3 ? o : o - 1);
        }
        sentence("CHASE: in a part that the KING can not come to");
        x = path(3);
        x.road(4, 5, true);
        chased(x, 0, 5, NONE, NONE, 4);
        chased(x, 4, 2, NONE, NONE, 1);
    }

    private static void chaseOnPaths() {
        sentence("ROUNDS: the fewest in which the KING can touch him, whatever he does: 11 on a path of twelve");
        TouchReign x = path(12);
        for (int o = 2; o < 12; o++) due("rounds(0, " + o + ")", x.rounds(0, o), 11);
        for (int o = 0; o < 10; o++) due("rounds(11, " + o + ")", x.rounds(11, o), 11);
        for (int k = 0; k < 11; k++) {
            chased(x, k, k + 1, 1, k + 1, k < 10 ? k + 2 : 11);
            chased(x, k + 1, k, 1, k, k > 0 ? k - 1 : 0);
        }
        sentence("ROUNDS: to the farther end, by who stands where");
        for (int k = 2; k < 12; k++) due("rounds(" + k + ", 0)", x.rounds(k, 0), k);
        due("rounds(6, 4)", x.rounds(6, 4), 6);
        due("rounds(6, 8)", x.rounds(6, 8), 5);
        sentence("NONE: he can not: a ring of 4 and more; of 3 he can");
        for (int n = 3; n <= 12; n++) {
            x = ring(n);
            due("a ring of " + n + ": rounds(0, 2)", x.rounds(0, 2), n == 3 ? 1 : NONE);
            due("a ring of " + n + ": rounds(0, 1)", x.rounds(0, 1), 1);
            due("a ring of " + n + ": heads(0, 2)", x.heads(0, 2), n == 3 ? 2 : NONE);
        }
        sentence("HEADS: the least PLACE of those that serve");
        x = new TouchReign();
        for (int a : new int[] {4, 6}) for (int b : new int[] {1, 2, 8}) x.road(a, b, true);
        for (int a : new int[] {1, 2, 8}) for (int b : new int[] {1, 2, 8}) if (a < b) x.road(a, b, true);
        chased(x, 4, 6, 2, 1, 6);
        chased(x, 6, 4, 2, 1, 4);
        sentence("HEADS: the least of two that serve, and the greatest where it alone serves");
        x = new TouchReign();
        for (int a : new int[] {4, 6}) for (int b : new int[] {10, 11}) x.road(a, b, true);
        x.road(10, 11, true);
        chased(x, 4, 6, 2, 10, 6);
        x.road(6, 0, true);
        x.road(11, 0, true);
        chased(x, 4, 6, 2, 11, 0);
        sentence("BREATH, FINGERS, LAST no matter");
        x = path(12);
        x.one(0, 0, 0);
        x.one(1, 11, 0);
        x.crown(1);
        does(x, "A*B*", 2);
        chased(x, 0, 11, 11, 1, 10);
    }

    private static void chaseAtHome() {
        sentence("He is touched when both are in one PLACE that is not HOME");
        TouchReign x = path(2);
        chased(x, 0, 0, 0, NONE, NONE);
        chased(x, 0, 1, 1, 1, 1);
        x.home(0, true);
        chased(x, 0, 0, NONE, NONE, 0);
        chased(x, 0, 1, 1, 1, 0);
        chased(x, 1, 0, NONE, NONE, 0);
        chased(x, 1, 1, 0, NONE, NONE);
        sentence("FLEES: never is more than any");
        x = path(5);
        x.home(4, true);
        // from 2 with the KING in 0 he may go to 1 and be touched, stay, or go on: he comes home from both
        chased(x, 0, 2, NONE, NONE, 2);
        chased(x, 0, 3, NONE, NONE, 2);
        chased(x, 1, 2, 1, 2, 3);
        chased(x, 2, 3, 1, 3, 4);
        chased(x, 3, 4, NONE, NONE, 4);
        chased(x, 4, 4, NONE, NONE, 4);
        sentence("the KING can be at HOME, and he who flees may go where the KING is if that is HOME");
        chased(x, 4, 3, 1, 3, 4);
        chased(x, 4, 2, 4, 3, 1);
        sentence("whoever came there: he is touched where he comes to the KING");
        x = path(3);
        chased(x, 1, 0, 1, 0, 0);
        chased(x, 1, 2, 1, 2, 2);
        chased(x, 0, 2, 2, 1, 2);
        sentence("FLEES: the least PLACE of as many ROUNDS");
        x = star(5);
        chased(x, 0, 5, 1, 5, 1);
        chased(x, 1, 5, 1, 5, 0);
        chased(x, 5, 3, 1, 3, 3);
        chased(x, 0, 3, 2, 5, 3);
    }

    /** A land where it takes 15 ROUNDS, the most that a search has found for twelve PLACES. */
    private static TouchReign longLand() {
        TouchReign x = new TouchReign();
        int[] ends = {1, 2, 1, 3, 0, 4, 2, 6, 5, 6, 0, 7, 3, 7, 1, 8, 2, 8, 5, 8, 6, 8, 2, 9, 5, 9, 6, 9, 4, 10,
            1, 11, 5, 11, 8, 11, 9, 11};
        for (int i = 0; i < ends.length; i += 2) x.road(ends[i], ends[i + 1], true);
        return x;
    }

    private static TouchReign chaseLand(int number) {
        TouchReign x = number == 0 ? longLand() : number == 1 ? path(12) : number == 2 ? star(5) : ring(12);
        if (number == 3) for (int i = 0; i < 6; i++) x.road(11, i, true);
        if (number > 0) x.home(number == 1 ? 11 : 2, true);
        return x;
    }

    private static void chasesPlayedOut() {
        sentence("ROUNDS of a long chase");
        due("rounds(10, 0)", longLand().rounds(10, 0), 15);
        sentence("HEADS and FLEES, played round by round, end with a touch in just so many ROUNDS");
        for (int number = 0; number < 4; number++) {
            for (int start = 0; start < 144; start++) {
                TouchReign x = chaseLand(number);
                int king = start / 12;
                int other = start % 12;
                int rounds = x.rounds(king, other);
                int homes = x.told(5);
                int played = 0;
                boolean touched = king == other && (homes >> king & 1) == 0;
                due("0 ROUNDS where he is touched already", rounds == 0 ? 1 : 0, touched ? 1 : 0);
                while (!touched && played < 20 && x.heads(king, other) != NONE) {
                    king = x.heads(king, other);
                    touched = king == other && (homes >> king & 1) == 0;
                    if (!touched) other = x.flees(king, other);
                    touched = king == other && (homes >> king & 1) == 0;
                    played++;
                }
                due("land " + number + ", played from " + start, touched ? played : NONE, rounds);
                if (rounds == NONE) due("no ROUND is played", played, 0);
            }
        }
    }

    // ---- promise 18

    private static void shade() {
        sentence("SHADE with no ROAD: all twelve, for each r");
        TouchReign x = new TouchReign();
        for (int r = 0; r < 12; r++) {
            due("shade(" + r + ", 0)", x.shade(r, 0), 12);
            due("shade(" + r + ", 1)", x.shade(r, 1), 4095);
        }
        sentence("SHADE with r 0: all twelve, for each land");
        x = net();
        due("shade(0, 0)", x.shade(0, 0), 12);
        due("shade(0, 1)", x.shade(0, 1), 4095);
        for (int r = 1; r < 12; r++) {
            due("shade(" + r + ", 0)", x.shade(r, 0), 1);
            due("shade(" + r + ", 1)", x.shade(r, 1), 1);
        }
        sentence("by r ROADS (0 to 11) or fewer: how many; which, least as bits of as few");
        x = path(12);
        int[] many = {12, 4, 3, 2, 2, 2, 1, 1, 1, 1, 1, 1};
        for (int r = 0; r < 12; r++) {
            due("shade(" + r + ", 0) of a path", x.shade(r, 0), many[r]);
            due("shade(" + r + ", 1) of a path", x.shade(r, 1), leastPathShade(r, many[r]));
        }
        due("shade(11, 1)", x.shade(11, 1), 1);
        due("shade(10, 1)", x.shade(10, 1), 2);
        due("shade(6, 1)", x.shade(6, 1), 32);
        sentence("SHADE: what is HOME is no matter");
        for (int p = 0; p < 12; p++) x.home(p, p > 5);
        due("shade(11, 1)", x.shade(11, 1), 1);
        due("shade(10, 1)", x.shade(10, 1), 2);
        due("told(5)", x.told(5), 0b111111000000);
        sentence("SHADE of two parts");
        x.road(5, 6, false);
        due("shade(11, 0)", x.shade(11, 0), 2);
        due("shade(11, 1)", x.shade(11, 1), 1 + 64);
        due("shade(4, 1)", x.shade(4, 1), 2 + 128);
        sentence("SHADE: each number from 1 to 12: the first of a path and all that are alone");
        for (int n = 1; n <= 12; n++) {
            x = path(n);
            int alone = 4095 & -1 << n;
            due("shade(11, 0) of a path of " + n, x.shade(11, 0), 13 - n);
            due("shade(11, 1) of a path of " + n, x.shade(11, 1), 1 | alone);
        }
        sentence("SHADE: the last PLACE alone serves");
        x = star(11);
        due("shade(1, 1)", x.shade(1, 1), 2048);
        due("shade(2, 1)", x.shade(2, 1), 1);
    }

    /** On a path of twelve the PLACES that a HOME shades are the r on each side of it. */
    private static int leastPathShade(int r, int many) {
        for (int set = 1; set < 4096; set++) {
            if (Integer.bitCount(set) != many) continue;
            int shaded = 0;
            for (int p = 0; p < 12; p++) {
                if ((set >> p & 1) == 0) continue;
                for (int q = Math.max(0, p - r); q <= Math.min(11, p + r); q++) shaded |= 1 << q;
            }
            if (shaded == 4095) return set;
        }
        return 0;
    }

    // ---- promises 19 to 23

    private static void noMeeting() {
        sentence("no MEETING: he is KING who was, by 0 touches, with chance 1");
        TouchReign x = new TouchReign();
        for (int k = 0; k < 7; k++) {
            due("maybe(" + k + ")", x.maybe(k), 1 << k);
            for (int e = 0; e < 7; e++) {
                due("touches(" + k + ", " + e + ")", x.touches(k, e), k == e ? 0 : NONE);
                for (int t = 0; t <= 10; t += 5) {
                    due("chance(" + k + ", " + e + ", " + t + ", 0)", x.chance(k, e, t, 0), k == e ? 1 : 0);
                    due("chance(" + k + ", " + e + ", " + t + ", 1)", x.chance(k, e, t, 1), 1);
                }
            }
        }
    }

    private static void meetings() {
        sentence("A MEETING more (of ONES 0 to 6, be they there or not): how many; FULL");
        TouchReign x = new TouchReign();
        for (int i = 1; i <= 8; i++) {
            due("met(" + i % 7 + ", 0 or 6)", x.met(i % 7, i % 7 == 0 ? 6 : 0), i);
            due("told(6)", x.told(6), i);
        }
        due("met, the ninth", x.met(0, 6), FULL);
        due("told(6)", x.told(6), 8);
        sentence("MEETINGS go: how many there were");
        due("unmeet()", x.unmeet(), 8);
        due("unmeet() again", x.unmeet(), 0);
        due("met(6, 0)", x.met(6, 0), 1);
        due("maybe(1)", x.maybe(1), 2);
        due("maybe(0)", x.maybe(0), 65);
        x = court();
        due("met(0, 1), who are there", x.met(0, 1), 1);
        sentence("the eighth MEETING counts as the first does");
        x = new TouchReign();
        int[] chain = {0, 1, 2, 3, 4, 5, 6, 0, 1};
        for (int i = 0; i < 8; i++) {
            x.met(chain[i], chain[i + 1]);
            due("maybe(0)", x.maybe(0), i < 6 ? (1 << i + 2) - 1 : 127);
            due("with ten tenths", x.chance(0, chain[i + 1], 10, 0), 1);
            due("with ten tenths", x.chance(0, chain[i + 1], 10, 1), 1);
            due("with no tenth", x.chance(0, 0, 0, 0), 1);
        }
        due("touches(0, 5)", x.touches(0, 5), 5);
        due("touches(0, 6), by the seventh", x.touches(0, 6), 1);
        due("touches(0, 1)", x.touches(0, 1), 1);
        due("touches(2, 6)", x.touches(2, 6), 4);
        due("touches(2, 0), by the second and the eighth", x.touches(2, 0), 2);
        sentence("one of these behind another");
        x = met(1, 2, 0, 1);
        due("maybe(0)", x.maybe(0), 3);
        due("maybe(1)", x.maybe(1), 7);
        due("touches(0, 2)", x.touches(0, 2), NONE);
        due("touches(2, 0)", x.touches(2, 0), 2);
        sentence("met(a, b) and met(b, a) are one");
        x = met(6, 5, 4, 5);
        due("maybe(6)", x.maybe(6), 0b1110000);
        x = met(5, 6, 5, 4);
        due("maybe(6)", x.maybe(6), 0b1110000);
    }

    private static void noReturns() {
        sentence("if the other one is not LAST, he touches him, or does not");
        TouchReign x = met(0, 1, 0, 1, 1, 0);
        due("chance(0, 1, 10, 0)", x.chance(0, 1, 10, 0), 1);
        due("chance(0, 0, 10, 0)", x.chance(0, 0, 10, 0), 0);
        x = met(0, 1, 1, 2, 2, 1, 2, 0, 0, 2);
        // 1 is LAST of 2, and 2 is LAST of 0
        due("chance(0, 0, 10, 0)", x.chance(0, 0, 10, 0), 1);
        due("touches(0, 1)", x.touches(0, 1), 1);
        x = met(0, 1, 1, 0);
        due("maybe(0)", x.maybe(0), 3);
        due("touches(0, 0)", x.touches(0, 0), 0);
        sentence("a return by way of a third one");
        x = met(0, 1, 1, 2, 2, 0);
        due("chance(0, 0, 10, 0)", x.chance(0, 0, 10, 0), 1);
        due("touches(0, 0)", x.touches(0, 0), 0);
        sentence("LAST was nobody then, whoever is KING and LAST in fact");
        x = court();
        does(x, "A>B", 1);
        x.met(1, 0);
        due("maybe(1)", x.maybe(1), 3);
        due("touches(1, 0)", x.touches(1, 0), 1);
        due("maybe(0)", x.maybe(0), 3);
        sentence("FINGERS, HOME, PLACES no matter to MEETINGS");
        x.home(0, true);
        x.home(1, true);
        does(x, "A*B*", 2);
        due("maybe(1)", x.maybe(1), 3);
        sentence("TOUCHES: the fewest of several ways");
        x = met(0, 1, 1, 2, 0, 2);
        due("touches(0, 2)", x.touches(0, 2), 1);
        due("touches(0, 1)", x.touches(0, 1), 1);
        due("touches(2, 0)", x.touches(2, 0), 1);
        due("touches(0, 3)", x.touches(0, 3), NONE);
    }

    private static void chances() {
        sentence("t tenths (0 to 10); Fractions are told in lowest terms");
        for (int n = 1; n <= 8; n++) {
            for (int t = 0; t <= 10; t++) {
                TouchReign x = new TouchReign();
                for (int i = 0; i < n; i++) x.met(3, 4);
                // he keeps it if he does not touch in any of them
                BigInteger lower = BigInteger.TEN.pow(n);
                BigInteger upper = BigInteger.valueOf(10 - t).pow(n);
                fraction(x, 3, 3, t, upper, lower);
                fraction(x, 3, 4, t, lower.subtract(upper), lower);
                fraction(x, 3, 5, t, BigInteger.ZERO, lower);
                fraction(x, 5, 5, t, lower, lower);
            }
        }
        sentence("each time he can touch he does with t tenths: a chain of eight");
        TouchReign x = met(0, 1, 1, 2, 2, 3, 3, 4, 4, 5, 5, 6, 6, 0, 0, 1);
        BigInteger all = BigInteger.TEN.pow(8);
        // 5 has it by five touches and keeps it once; 6 by six and keeps it once, or 0 keeps it once and touches 6
        fraction(x, 0, 5, 3, BigInteger.valueOf(3).pow(5).multiply(BigInteger.valueOf(700)), all);
        fraction(x, 0, 6, 3, BigInteger.valueOf(21051030), all);
        // 2 has it by two touches and keeps it once
        fraction(x, 0, 2, 9, BigInteger.valueOf(81).multiply(BigInteger.valueOf(100000)), all);
    }

    private static void fraction(TouchReign x, int king, int then, int t, BigInteger upper, BigInteger lower) {
        BigInteger common = upper.gcd(lower);
        String call = "chance(" + king + ", " + then + ", " + t + ", ";
        due(call + "0)", x.chance(king, then, t, 0), upper.divide(common).longValueExact());
        due(call + "1)", x.chance(king, then, t, 1), lower.divide(common).longValueExact());
    }

    // ---- promises 24 to 27

    private static void sights() {
        sentence("0 SIGHTS: all");
        TouchReign x = new TouchReign();
        due("lairs() with no ROAD", x.lairs(), 4095);
        due("lairs() of a path", path(5).lairs(), 4095);
        sentence("A SIGHT more: how many; FULL");
        x = path(12);
        for (int i = 1; i <= 8; i++) {
            due("seen(" + (i - 1) + ", " + i + ", true)", x.seen(i - 1, i, true), i);
            due("lairs()", x.lairs(), 4095 & -1 << i);
        }
        due("seen, the ninth", x.seen(8, 9, true), FULL);
        due("told(7)", x.told(7), 8);
        due("lairs()", x.lairs(), 0b111100000000);
        sentence("SIGHTS go: how many there were");
        due("forget()", x.forget(), 8);
        due("lairs()", x.lairs(), 4095);
        due("forget() again", x.forget(), 0);
        due("seen(11, 0, false)", x.seen(11, 0, false), 1);
        due("lairs()", x.lairs(), 0b111111000000);
        sentence("the eighth SIGHT of one who did not come nearer");
        x = path(12);
        for (int i = 0; i < 7; i++) x.seen(0, 1, true);
        due("lairs()", x.lairs(), 4094);
        due("seen(10, 11, false)", x.seen(10, 11, false), 8);
        due("lairs()", x.lairs(), 2046);
    }

    private static void lairs() {
        sentence("came nearer to where the KING sits (by FAR), or did not: as far is not nearer");
        TouchReign x = ring(4);
        x.seen(0, 2, true);
        due("lairs(), nearer", x.lairs(), 4);
        x.forget();
        x.seen(0, 2, false);
        due("lairs(), not nearer", x.lairs(), 0b1011);
        x.forget();
        x.seen(3, 3, false);
        due("lairs(), to the same PLACE", x.lairs(), 0b1111);
        x.seen(3, 3, true);
        due("lairs(), to the same PLACE and nearer", x.lairs(), 0);
        sentence("PLACES from which both of all SIGHTS can be come to");
        x = path(3);
        x.road(11, 10, true);
        x.seen(10, 11, false);
        due("lairs()", x.lairs(), 1 << 10);
        x.forget();
        x.seen(10, 0, true);
        due("lairs() of two parts", x.lairs(), 0);
        x.forget();
        x.seen(0, 10, false);
        due("lairs() of two parts, not nearer", x.lairs(), 0);
        x.forget();
        x.seen(9, 9, false);
        due("lairs() of a lone PLACE", x.lairs(), 1 << 9);
        x.seen(8, 8, false);
        due("lairs() of two lone ones", x.lairs(), 0);
        sentence("the last PLACE can be a LAIR, and the first");
        x = path(12);
        x.seen(10, 11, true);
        due("lairs()", x.lairs(), 2048);
        x.forget();
        x.seen(1, 0, true);
        due("lairs()", x.lairs(), 1);
        sentence("LAIRS as bits: each PLACE of the path, told from both sides");
        for (int p = 1; p < 11; p++) {
            x.forget();
            x.seen(p - 1, p, true);
            x.seen(p + 1, p, true);
            due("lairs() at " + p, x.lairs(), 1 << p);
        }
    }

    private static void asking() {
        sentence("ASK: whatever it is (or NONE), fewest LAIRS are left at the most: the least; how many");
        TouchReign x = new TouchReign();
        due("ask(0) with no ROAD", x.ask(0), 0);
        due("ask(1) with no ROAD", x.ask(1), 11);
        x = net();
        due("ask(0) with all ROADS", x.ask(0), 0);
        due("ask(1) with all ROADS", x.ask(1), 11);
        x = path(12);
        due("ask(0) of a path", x.ask(0), 0);
        due("ask(1) of a path", x.ask(1), 1);
        x = ring(11);
        due("ask(0) of a ring and a lone one", x.ask(0), 0);
        due("ask(1) of a ring and a lone one", x.ask(1), 2);
        sentence("ASK: a PLACE that is no LAIR may serve, and the last one");
        x = path(5);
        x.seen(0, 1, true);
        due("lairs()", x.lairs(), 0b11110);
        due("ask(0)", x.ask(0), 0);
        due("ask(1)", x.ask(1), 1);
        x = star(0);
        x.road(0, 11, false);
        x.road(11, 1, true);
        x.road(11, 2, true);
        x.road(11, 3, true);
        x.road(11, 4, true);
        x.road(11, 5, true);
        // from l: itself; b to f; a; g to k
        due("ask(0)", x.ask(0), 11);
        due("ask(1)", x.ask(1), 5);
        sentence("ASK: each PLACE in its turn is the one to ask at");
        for (int p = 0; p < 12; p++) {
            int middle = (p + 6) % 12;
            x = star(middle);
            x.road(middle, p, false);
            for (int i = 1; i <= 5; i++) x.road(p, (p + i) % 12, true);
            // from p: itself; five; the middle; five; from any other nine and more are as far
            due("ask(0)", x.ask(0), p);
            due("ask(1)", x.ask(1), 5);
        }
        sentence("ASK: one LAIR alone: the least PLACE, 1");
        x = path(12);
        x.seen(10, 11, true);
        due("ask(0)", x.ask(0), 0);
        due("ask(1)", x.ask(1), 1);
        sentence("NONE: there are no LAIRS");
        x.seen(1, 0, true);
        due("lairs()", x.lairs(), 0);
        due("ask(0)", x.ask(0), NONE);
        due("ask(1)", x.ask(1), NONE);
        due("ask(2)", x.ask(2), OUTSIDE);
        due("ask(-1)", x.ask(-1), OUTSIDE);
        x.forget();
        due("ask(0)", x.ask(0), 0);
    }

    // ---- promise 28

    /** A net with all in a, BREATH 5; A is KING: what one drawn ACT does is then told by x alone. */
    private static void yearsOfOneAct() {
        sentence("A YEAR by a seed (0 to 9999) of m ACTS: of one ACT, each seed");
        TouchReign x = null;
        for (int seed = 0; seed <= 9999; seed++) {
            if (seed % 100 == 0) {
                x = net();
                for (int who = 0; who < 7; who++) x.one(who, 0, 5);
                x.crown(0);
            }
            int draw = (75 * seed + 74) % 65537;
            int who = draw % 7;
            int kind = draw / 7 % 8;
            boolean runs = kind < 3 && draw / 56 % 12 != 0;
            boolean touches = (kind == 3 || kind == 4) && who == 0 && draw / 56 % 7 != 0;
            due("year(" + seed + ", 1, 0)", x.year(seed, 1, 0), touches ? 1 : 0);
            due("year(" + seed + ", 1, 1)", x.year(seed, 1, 1), touches ? draw / 56 % 7 : 0);
            due("year(" + seed + ", 1, 2)", x.year(seed, 1, 2), runs ? 34 : kind == 5 ? 37 : 35);
        }
    }

    private static void years() {
        sentence("A YEAR of no ONE: nothing can be");
        TouchReign x = net();
        for (int seed : new int[] {0, 1, 5000, 9998, 9999}) {
            for (int m : new int[] {1, 2, 98, 99}) {
                due("year(" + seed + ", " + m + ", 0)", x.year(seed, m, 0), 0);
                due("year(" + seed + ", " + m + ", 1)", x.year(seed, m, 1), NONE);
                due("year(" + seed + ", " + m + ", 2)", x.year(seed, m, 2), 0);
            }
        }
        sentence("by seed 9999 the first draw is 29092: A touches B");
        x = court();
        due("year(9999, 1, 0)", x.year(9999, 1, 0), 1);
        due("year(9999, 1, 1)", x.year(9999, 1, 1), 1);
        due("year(9999, 1, 2)", x.year(9999, 1, 2), 20);
        sentence("each if that can be");
        x.home(0, true);
        due("at HOME: year(9999, 1, 0)", x.year(9999, 1, 0), 0);
        due("at HOME: year(9999, 1, 1)", x.year(9999, 1, 1), 0);
        x.home(0, false);
        does(x, "B*", 1);
        due("FINGERS: year(9999, 1, 0)", x.year(9999, 1, 0), 0);
        does(x, "B*", 1);
        x.crown(2);
        does(x, "C>A", 1);
        due("C is LAST: year(9999, 1, 0)", x.year(9999, 1, 0), 1);
        x.crown(1);
        does(x, "B>A", 1);
        due("B is LAST: year(9999, 1, 0)", x.year(9999, 1, 0), 0);
        x.crown(2);
        due("A is not KING: year(9999, 1, 0)", x.year(9999, 1, 0), 0);
        due("A is not KING: year(9999, 1, 1)", x.year(9999, 1, 1), 2);
        x.crown(0);
        x.leave(1);
        due("B is not there: year(9999, 1, 0)", x.year(9999, 1, 0), 0);
        sentence("no PAD, no MEETING matters to a YEAR; Nothing is DONE in fact");
        x = court();
        write(x, "A>");
        x.met(0, 1);
        due("year(9999, 1, 1)", x.year(9999, 1, 1), 1);
        due("told(2)", x.told(2), 0);
        due("told(0)", x.told(0), 2);
    }

    /** Whole YEARS, ACT by ACT: the same ACTS, written on a PAD, must do the same. */
    private static void yearsAsDays() {
        sentence("A YEAR: touches; who is KING (NONE); BREATH of all together: as the same DAYS do");
        for (int seed = 0; seed <= 9999; seed += 101) {
            for (int m : new int[] {1, 2, 50, 98, 99}) {
                TouchReign x = smallWorld();
                TouchReign y = smallWorld();
                int touches = 0;
                long draw = seed;
                for (int i = 0; i < m; i++) {
                    draw = (75 * draw + 74) % 65537;
                    String act = drawnAct(draw);
                    for (int at = 0; at < act.length(); at++) y.say(act.charAt(at));
                    if (y.done() == NO) y.wipe();
                    else if (act.indexOf('>') > 0) touches++;
                }
                int breath = 0;
                for (int who = 0; who < 5; who++) breath += y.told(11 + 10 * who);
                due("year(" + seed + ", " + m + ", 0)", x.year(seed, m, 0), touches);
                due("year(" + seed + ", " + m + ", 1)", x.year(seed, m, 1), y.told(2));
                due("year(" + seed + ", " + m + ", 2)", x.year(seed, m, 2), breath);
            }
        }
    }

    private static TouchReign smallWorld() {
        TouchReign x = ring(12);
        for (int i = 0; i < 12; i += 2) x.road(i, (i + 5) % 12, true);
        for (int who = 0; who < 5; who++) x.one(who, 0, 2);
        x.home(7, true);
        x.crown(2);
        return x;
    }

    private static String drawnAct(long draw) {
        char who = one((int) (draw % 7));
        int kind = (int) (draw / 7 % 8);
        if (kind < 3) return "" + who + place((int) (draw / 56 % 12));
        if (kind < 5) return who + ">" + one((int) (draw / 56 % 7));
        return kind == 5 ? who + "+" : kind == 6 ? who + "*" : ".";
    }

    // ---- promises 29, 30, 31

    private static void images() {
        for (int n = 0; n < 2; n++) {
            sentence("STATE: it was not kept; the other IMAGE is no matter");
            TouchReign x = new TouchReign();
            due("restore(" + n + ")", x.restore(n), STATE);
            due("image(" + (1 - n) + ")", x.image(1 - n), 1);
            due("restore(" + n + ")", x.restore(n), STATE);
            sentence("an IMAGE of a new object");
            x.road(0, 1, true);
            x.one(0, 0, 0);
            x.home(0, true);
            x.crown(0);
            x.met(0, 1);
            x.seen(0, 1, true);
            does(x, "..", 2);
            write(x, "A+");
            due("restore(" + (1 - n) + ")", x.restore(1 - n), 1);
            for (int what : new int[] {1, 4, 5, 6, 7, 100, 101}) due("told(" + what + ")", x.told(what), 0);
            due("told(2)", x.told(2), NONE);
            due("told(3)", x.told(3), NONE);
            sentence("All but the PAD is kept; the PAD stays");
            due("told(0)", x.told(0), 2);
            due("judge(1)", x.judge(1), 1);
            sentence("an IMAGE stays for more than one restore");
            due("restore(" + (1 - n) + ") again", x.restore(1 - n), 1);
            due("restore(" + n + ")", x.restore(n), STATE);
        }
        sentence("an IMAGE is kept anew; each of both for itself");
        TouchReign x = new TouchReign();
        for (int i = 0; i < 6; i++) {
            x.home(i, true);
            due("image", x.image(i % 2), 1);
        }
        due("restore(0)", x.restore(0), 1);
        due("told(5)", x.told(5), 0b011111);
        due("restore(1)", x.restore(1), 1);
        due("told(5)", x.told(5), 0b111111);
    }

    private static void imagesOfAll() {
        sentence("It is as it was when it was kept");
        TouchReign x = court();
        does(x, ".A>B..C*B*DaDb", 8);
        x.home(3, true);
        x.met(5, 6);
        x.met(6, 4);
        x.seen(0, 1, true);
        x.image(1);
        x.road(0, 1, false);
        x.road(4, 5, true);
        x.home(3, false);
        x.home(11, true);
        does(x, "C*B*A+B>C..", 6);
        for (int who = 0; who < 7; who++) x.one(who, 11, 9);
        x.crown(6);
        x.unmeet();
        x.met(0, 3);
        x.forget();
        x.seen(1, 0, true);
        x.seen(1, 0, true);
        due("restore(1)", x.restore(1), 1);
        int[] want = {0, 15, 1, 0, 3, 8, 2, 1};
        for (int what = 0; what < 8; what++) due("told(" + what + ")", x.told(what), want[what]);
        int[][] each = {{0, 5, 0, 1}, {0, 5, 1, 2}, {0, 5, 1, 0}, {1, 3, 0, 0}};
        for (int who = 0; who < 4; who++) {
            for (int i = 0; i < 4; i++) due("told of " + who + ", " + i, x.told(10 + 10 * who + i), each[who][i]);
        }
        due("told(100)", x.told(100), 2);
        due("told(104)", x.told(104), 0);
        due("maybe(5)", x.maybe(5), 0b1110000);
        due("maybe(0)", x.maybe(0), 1);
        due("lairs()", x.lairs(), 2);
        sentence("what is done behind restore does not touch the IMAGE");
        x.road(0, 2, true);
        x.met(0, 1);
        x.seen(0, 1, false);
        does(x, "A*.", 2);
        x.leave(3);
        x.restore(1);
        for (int what = 0; what < 8; what++) due("told(" + what + ")", x.told(what), want[what]);
        due("told(12)", x.told(12), 0);
        due("told(100)", x.told(100), 2);
        due("lairs()", x.lairs(), 2);
    }

    /** With n 0 or 1 no ROAD, ONE, MEETING or SIGHT of both is alike. */
    private static TouchReign fullWorld(TouchReign x, int n) {
        for (int a = 0; a < 12; a++) for (int b = 0; b < a; b++) x.road(a, b, (a + b + n) % 2 == 0);
        for (int who = 0; who < 7; who++) x.one(who, who + 5 * n, 1 + who + n);
        x.unmeet();
        x.forget();
        for (int i = 0; i < 8; i++) {
            x.met(i < 7 ? i % 3 : 6 - n, i < 7 ? 3 + n : 5 - n);
            x.seen(i < 7 ? n : 11 - n, i < 7 ? n : 9 - n, i >= 7 && n == 0);
        }
        return x;
    }

    private static void fullImages() {
        sentence("It is as it was when it was kept: all ROADS, all ONES, 8 MEETINGS, 8 SIGHTS");
        for (int n = 0; n < 2; n++) {
            TouchReign x = fullWorld(new TouchReign(), n);
            x.image(n);
            fullWorld(x, 1 - n);
            x.restore(n);
            TouchReign y = fullWorld(new TouchReign(), n);
            TouchReign z = fullWorld(new TouchReign(), 1 - n);
            for (int what = 100; what < 112; what++) {
                due("told(" + what + ")", x.told(what), y.told(what));
                due("the test itself: roads differ", y.told(what) == z.told(what) ? 0 : 1, 1);
            }
            for (int what = 10; what < 80; what++) due("told(" + what + ")", x.told(what), y.told(what));
            // the eighth MEETING is of 6 and 5, or of 5 and 4, of whom none is in the others of the first
            due("maybe(6)", x.maybe(6), n == 0 ? 0b1100000 : 0b1000000);
            for (int who = 0; who < 7; who++) due("maybe(" + who + ")", x.maybe(who), y.maybe(who));
            due("lairs()", x.lairs(), y.lairs());
            due("the test itself: LAIRS differ", y.lairs() == z.lairs() ? 0 : 1, 1);
        }
    }

    private static void telling() {
        sentence("0 signs, 1 ONES (bits), 2 KING, 3 LAST (NONE), 4 the minute, 5 HOME (bits), 6 MEETINGS, 7 SIGHTS");
        TouchReign x = atMinute(99);
        x.one(6, 11, 9);
        x.home(0, true);
        x.home(11, true);
        for (int i = 0; i < 8; i++) {
            x.met(i % 2, 6);
            x.seen(i, 0, false);
        }
        does(x, "D*G*", 2);
        x.home(0, false);
        does(x, "A>B", 1);
        write(x, times("!", 60));
        int[] want = {60, 79, 1, 0, 99, 2048, 8, 8, OUTSIDE, OUTSIDE};
        for (int what = 0; what < 10; what++) due("told(" + what + ")", x.told(what), want[what]);
        sentence("10 times (1 and a ONE who is there) and 0 PLACE, 1 BREATH, 2 FINGERS (1, 0), 3 REIGNED");
        int[][] each = {{0, 5, 0, 99}, {0, 5, 0, 0}, {0, 5, 0, 0}, {1, 5, 1, 0}, null, null, {11, 9, 1, 0}};
        for (int who = 0; who < 7; who++) {
            for (int i = 0; i < 10; i++) {
                int due = each[who] == null || i > 3 ? OUTSIDE : each[who][i];
                due("told(" + (10 + 10 * who + i) + ")", x.told(10 + 10 * who + i), due);
            }
        }
        sentence("100 and a PLACE: to which ROADS lead (bits)");
        for (int p = 0; p < 12; p++) due("told(" + (100 + p) + ")", x.told(100 + p), p == 0 ? 2 : p == 1 ? 1 : 0);
        due("told(99)", x.told(99), OUTSIDE);
        due("told(112)", x.told(112), OUTSIDE);
    }

    public static void main(String[] args) {
        newObject();
        roads();
        homes();
        ones();
        leaving();
        crowns();
        signs();
        faults();
        running();
        resting();
        fingers();
        touching();
        minutes();
        reasonsOfRunning();
        reasonsOfTouching();
        reasonsAtHome();
        judging();
        doing();
        beyond();
        beyondOfNobody();
        far();
        chaseOnEmptyAndFullLand();
        chaseOnPaths();
        chaseAtHome();
        chasesPlayedOut();
        shade();
        noMeeting();
        meetings();
        noReturns();
        chances();
        sights();
        lairs();
        asking();
        yearsOfOneAct();
        years();
        yearsAsDays();
        images();
        imagesOfAll();
        fullImages();
        telling();
        System.out.println(wrong == 0 ? "all sentences hold at their bounds" : wrong + " answers are not as due");
        if (wrong != 0) System.exit(1);
    }
}
