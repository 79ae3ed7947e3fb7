/** For each promise of the document: ordinary inputs, the edges that it names, and each refusal. */
public final class PromiseTest {
    private static final int NONE = -6, UNKNOWN = -1, OUTSIDE = -2, STATE = -3, FULL = -4, NO = -5;
    private static final int[] FAR_OUT = {Integer.MIN_VALUE, -1000, -7, -6, -2, 1000, Integer.MAX_VALUE};
    private static int wrong = 0;
    private static int promise = 0;

    private static void due(String call, long got, long want) {
        if (got != want) {
            wrong++;
            System.out.println("promise " + promise + ": " + call + " answered " + got + ", due is " + want);
        }
    }

    private static void write(TouchReign x, String text) {
        x.wipe();
        for (int i = 0; i < text.length(); i++) x.say(text.charAt(i));
    }

    private static void fill(TouchReign x, char sign, int times) {
        x.wipe();
        for (int i = 0; i < times; i++) x.say(sign);
    }

    private static void judged(TouchReign x, String text, int act, int why) {
        write(x, text);
        due(text + ": fault()", x.fault(), NONE);
        due(text + ": judge(0)", x.judge(0), act);
        due(text + ": judge(1)", x.judge(1), why);
    }

    private static void does(TouchReign x, String text, int acts) {
        write(x, text);
        due(text + ": done()", x.done(), acts);
        due(text + ": signs behind done()", x.told(0), 0);
    }

    /** A path a b c d and a lone e; A is in a, B in b, C in b, A is KING. */
    private static TouchReign small() {
        TouchReign x = new TouchReign();
        x.road(0, 1, true);
        x.road(1, 2, true);
        x.road(2, 3, true);
        x.one(0, 0, 5);
        x.one(1, 1, 0);
        x.one(2, 1, 9);
        x.crown(0);
        return x;
    }

    private static TouchReign ring(int n) {
        TouchReign x = new TouchReign();
        for (int i = 0; i < n; i++) x.road(i, (i + 1) % n, true);
        return x;
    }

    private static void newObject() {
        promise = 1;
        TouchReign x = new TouchReign();
        int[] want = {0, 0, NONE, NONE, 0, 0, 0, 0};
        for (int what = 0; what < want.length; what++) due("told(" + what + ")", x.told(what), want[what]);
        for (int place = 0; place < 12; place++) due("told(100 + " + place + ")", x.told(100 + place), 0);
        for (int who = 0; who < 7; who++) due("told of one " + who, x.told(10 * (1 + who)), OUTSIDE);
        due("fault()", x.fault(), NONE);
        due("lairs()", x.lairs(), 4095);
        due("restore(0)", x.restore(0), STATE);
        due("restore(1)", x.restore(1), STATE);
        x.road(0, 1, true);
        due("another object's roads", new TouchReign().told(100), 0);
    }

    private static void road() {
        promise = 2;
        TouchReign x = new TouchReign();
        due("road(0, 11, true)", x.road(0, 11, true), 1);
        due("road(0, 11, true) again", x.road(0, 11, true), 1);
        due("road(11, 0, true) the other way", x.road(11, 0, true), 1);
        due("told(100)", x.told(100), 1 << 11);
        due("told(111)", x.told(111), 1);
        due("road(3, 4, false) of none", x.road(3, 4, false), 1);
        due("road(3, 4, true)", x.road(3, 4, true), 2);
        due("road(11, 0, false)", x.road(11, 0, false), 1);
        due("told(100)", x.told(100), 0);
        due("told(111)", x.told(111), 0);
        for (int bad : new int[] {-1, 12, NONE, Integer.MIN_VALUE, Integer.MAX_VALUE}) {
            due("road(bad, 0)", x.road(bad, 0, true), UNKNOWN);
            due("road(0, bad)", x.road(0, bad, false), UNKNOWN);
        }
        due("road(3, 3, true)", x.road(3, 3, true), UNKNOWN);
        due("road(3, 3, false)", x.road(3, 3, false), UNKNOWN);
        due("told(103)", x.told(103), 16);
        int roads = 1;
        for (int a = 0; a < 12; a++) {
            for (int b = a + 1; b < 12; b++) {
                if (a != 3 || b != 4) roads++;
                due("road(" + a + ", " + b + ")", x.road(b, a, true), roads);
            }
        }
        due("all roads", roads, 66);
    }

    private static void home() {
        promise = 3;
        TouchReign x = new TouchReign();
        due("home(11, true)", x.home(11, true), 2048);
        due("home(0, true)", x.home(0, true), 2049);
        due("home(0, true) again", x.home(0, true), 2049);
        due("home(5, false)", x.home(5, false), 2049);
        due("home(11, false)", x.home(11, false), 1);
        due("home(12, true)", x.home(12, true), UNKNOWN);
        due("home(-1, true)", x.home(-1, true), UNKNOWN);
        due("home(32, true)", x.home(32, true), UNKNOWN);
        due("told(5)", x.told(5), 1);
    }

    private static void one() {
        promise = 4;
        TouchReign x = new TouchReign();
        due("one(6, 11, 9)", x.one(6, 11, 9), 1);
        due("one(0, 0, 0)", x.one(0, 0, 0), 2);
        due("told(1)", x.told(1), 65);
        due("told(70)", x.told(70), 11);
        due("told(71)", x.told(71), 9);
        for (int bad : new int[] {-1, 7, 32, Integer.MIN_VALUE, Integer.MAX_VALUE}) {
            due("one(bad, 0, 0)", x.one(bad, 0, 0), UNKNOWN);
            due("one(bad, 12, 10)", x.one(bad, 12, 10), UNKNOWN);
        }
        due("one(1, -1, 0)", x.one(1, -1, 0), OUTSIDE);
        due("one(1, 12, 0)", x.one(1, 12, 0), OUTSIDE);
        due("one(1, 0, -1)", x.one(1, 0, -1), OUTSIDE);
        due("one(1, 0, 10)", x.one(1, 0, 10), OUTSIDE);
        due("told(1)", x.told(1), 65);
        x = small();
        does(x, "AbA>B.B*A*", 5);
        due("one(1, 3, 4) anew", x.one(1, 3, 4), 3);
        due("told(20)", x.told(20), 3);
        due("told(21)", x.told(21), 4);
        due("told(22)", x.told(22), 0);
        due("told(23)", x.told(23), 0);
        due("the KING stays", x.told(2), 1);
        x.one(0, 2, 2);
        due("told(12)", x.told(12), 0);
        due("LAST stays", x.told(3), 0);
    }

    private static void leave() {
        promise = 5;
        TouchReign x = small();
        does(x, "AbA>BC*.", 4);
        due("leave(2)", x.leave(2), 2);
        due("leave(2) again", x.leave(2), UNKNOWN);
        due("the KING stays", x.told(2), 1);
        due("LAST stays", x.told(3), 0);
        due("leave(0), who is LAST", x.leave(0), 1);
        due("the KING stays", x.told(2), 1);
        due("LAST is nobody", x.told(3), NONE);
        due("leave(1), who is KING", x.leave(1), 0);
        due("the KING is nobody", x.told(2), NONE);
        due("leave(7)", x.leave(7), UNKNOWN);
        due("leave(-1)", x.leave(-1), UNKNOWN);
        due("leave(NONE)", x.leave(NONE), UNKNOWN);
        x.one(2, 0, 0);
        due("he comes with FINGERS not crossed", x.told(32), 0);
        x = small();
        does(x, "AbA>B", 2);
        x.leave(1);
        due("LAST stays if the KING leaves", x.told(3), 0);
        x = small();
        write(x, "AbA>B");
        x.leave(1);
        due("an act of one who left", x.judge(1), 1);
    }

    private static void crown() {
        promise = 6;
        TouchReign x = small();
        due("crown(1)", x.crown(1), 0);
        due("crown(1) again", x.crown(1), 1);
        due("crown(-1)", x.crown(-1), 1);
        due("crown(-1) again", x.crown(-1), NONE);
        due("told(2)", x.told(2), NONE);
        for (int bad : new int[] {3, 6, 7, -2, NONE, 31, 32, Integer.MAX_VALUE, Integer.MIN_VALUE}) {
            due("crown(" + bad + ")", x.crown(bad), UNKNOWN);
        }
        x.crown(0);
        does(x, "AbA>B", 2);
        due("told(3)", x.told(3), 0);
        due("crown(5) refused", x.crown(5), UNKNOWN);
        due("LAST stays then", x.told(3), 0);
        due("crown(1) of the KING", x.crown(1), 1);
        due("LAST is nobody", x.told(3), NONE);
        does(x, "B>A", 1);
        due("crown(-1)", x.crown(-1), 0);
        due("LAST is nobody", x.told(3), NONE);
    }

    private static void say() {
        promise = 7;
        TouchReign x = new TouchReign();
        due("say(33)", x.say(33), 1);
        due("say(126)", x.say(126), 2);
        due("say(32)", x.say(32), OUTSIDE);
        due("say(127)", x.say(127), OUTSIDE);
        for (int bad : FAR_OUT) due("say(" + bad + ")", x.say(bad), OUTSIDE);
        due("told(0)", x.told(0), 2);
        for (int i = 3; i <= 60; i++) due("say(46)", x.say(46), i);
        due("say(46), the 61st", x.say(46), FULL);
        due("say(32), the 61st", x.say(32), OUTSIDE);
        due("told(0)", x.told(0), 60);
    }

    private static void wipe() {
        promise = 8;
        TouchReign x = new TouchReign();
        due("wipe() of none", x.wipe(), 0);
        fill(x, '!', 60);
        due("wipe()", x.wipe(), 60);
        due("wipe() again", x.wipe(), 0);
        due("fault()", x.fault(), NONE);
        due("say(46)", x.say(46), 1);
        due("fault()", x.fault(), NONE);
    }

    private static void fault() {
        promise = 9;
        String[] texts = {"", ".", "..", "A", "G", "H", "@", "a", "Aa", "Gl", "Am", "A`", "A>", "A>G", "A>H", "A>a",
            "A>.", "A>>", "A+", "A*", "A-", "A.", "AA", "A+B", "A+Ba", ">", "+", "*", ".A>B+", "Aa.", "AaBbC>", "!",
            "A!", "~"};
        int[] wants = {NONE, NONE, NONE, 1, 1, 0, 0, 0, NONE, NONE, 1, 1, 2, NONE, 2, 2,
            2, 2, NONE, NONE, 1, 1, 1, 3, NONE, 0, 0, 0, 4, NONE, 6, 0,
            1, 0};
        TouchReign x = new TouchReign();
        for (int i = 0; i < texts.length; i++) {
            write(x, texts[i]);
            due(texts[i] + ": fault()", x.fault(), wants[i]);
            due(texts[i] + ": signs", x.told(0), texts[i].length());
        }
        fill(x, '.', 60);
        due("60 minutes: fault()", x.fault(), NONE);
        fill(x, '.', 59);
        x.say('A');
        due("59 minutes and A: fault()", x.fault(), 60);
    }

    private static void judge() {
        promise = 10;
        TouchReign x = small();
        judged(x, "", NONE, NONE);
        judged(x, "AbA>BBbB+", 2, 2);
        judged(x, "D+", 0, 1);
        judged(x, "D*", 0, 1);
        judged(x, "Da", 0, 1);
        judged(x, "A+D>D", 1, 1);
        judged(x, "A>D", 0, 1);
        judged(x, "D>A", 0, 1);
        judged(x, "Ac", 0, 2);
        judged(x, "Bb", 0, 2);
        judged(x, "A>A", 0, 2);
        judged(x, "B>B", 0, 2);
        judged(x, "Ba", 0, 3);
        judged(x, "B>C", 0, 3);
        judged(x, "A*Ab", 1, 4);
        judged(x, "A*A*Ab", NONE, NONE);
        judged(x, "AbA*A>B", 2, 4);
        judged(x, "A>B", 0, 5);
        judged(x, "AbB*A>B", 2, 6);
        judged(x, "AbB*A>C", NONE, NONE);
        judged(x, "AbA>BB>A", 2, 8);
        judged(x, "AbA>BB>CC>A", NONE, NONE);
        judged(x, "AbA>BB>CC>AA>B", NONE, NONE);
        judged(x, "AbA>BB>CC>AA>C", 4, 8);
        judged(x, "B*Bb", 1, 2);
        judged(x, "B*Ba", 1, 3);
        judged(x, "A*A>B", 1, 4);
        judged(x, "B*A>B", 1, 5);
        judged(x, "A*A+A*A*", NONE, NONE);
        judged(x, "AbAcAdAcAbAa", 5, 3);
        judged(x, "AbAcAdAcAbA+AaAbAa", 8, 3);
        x.home(1, true);
        judged(x, "Ab", NONE, NONE);
        judged(x, "AbA>B", 1, 7);
        judged(x, "AbB*A>B", 2, 6);
        judged(x, "A>B", 0, 5);
        x.home(1, false);
        x.home(0, true);
        judged(x, "AbA>B", NONE, NONE);
        x = small();
        does(x, "AbA>B", 2);
        x.home(1, true);
        judged(x, "B>A", 0, 7);
        x.crown(-1);
        judged(x, "B>A", 0, 3);
        minutes();
        for (int bad : new int[] {-1, 2, Integer.MAX_VALUE}) {
            write(x, "");
            due("judge(" + bad + ")", x.judge(bad), OUTSIDE);
            write(x, "A");
            due("judge(" + bad + ") with a FAULT", x.judge(bad), OUTSIDE);
        }
        due("judge(0) with a FAULT", x.judge(0), NO);
        due("judge(1) with a FAULT", x.judge(1), NO);
        write(x, "D+A");
        due("judge(0) with a FAULT behind", x.judge(0), NO);
    }

    private static void minutes() {
        TouchReign x = small();
        fill(x, '.', 60);
        due("60 minutes", x.done(), 60);
        fill(x, '.', 40);
        due("40 minutes more: judge(0)", x.judge(0), 39);
        due("40 minutes more: judge(1)", x.judge(1), 9);
        due("40 minutes more: done()", x.done(), NO);
        due("the minute", x.told(4), 60);
        fill(x, '.', 39);
        due("39 minutes more", x.done(), 39);
        due("the minute", x.told(4), 99);
        due("REIGNED", x.told(13), 99);
        judged(x, "A+.", 1, 9);
        does(x, "AbA>B", 2);
    }

    private static void done() {
        promise = 11;
        TouchReign x = small();
        due("done() of none", x.done(), 0);
        does(x, "Ab.A>B.", 4);
        int[] want = {0, 7, 1, 0, 2, 0, 0, 0};
        for (int what = 0; what < want.length; what++) due("told(" + what + ")", x.told(what), want[what]);
        due("told(10)", x.told(10), 1);
        due("told(11)", x.told(11), 4);
        due("told(13)", x.told(13), 1);
        due("told(23)", x.told(23), 1);
        write(x, "A");
        due("done() with a FAULT", x.done(), NO);
        due("the PAD stays", x.told(0), 1);
        write(x, "C+.B>A");
        due("done() of what can not be", x.done(), NO);
        due("the PAD stays", x.told(0), 6);
        due("the minute stays", x.told(4), 2);
        does(x, "C+B+B+C*", 4);
        due("BREATH is 9 at most", x.told(31), 9);
        due("BREATH 2 more each time", x.told(21), 4);
        due("FINGERS", x.told(32), 1);
        does(x, "C*", 1);
        due("FINGERS not any more", x.told(32), 0);
        x.one(3, 3, 8);
        does(x, "D+", 1);
        due("8 and 2 is 9 at most", x.told(41), 9);
        x.crown(-1);
        does(x, ".", 1);
        due("nobody REIGNED", x.told(13) + x.told(23) + x.told(33) + x.told(43), 2);
    }

    private static void behind() {
        promise = 12;
        TouchReign x = small();
        write(x, "Ab.A>B..C+Aa");
        due("behind(0, 0)", x.behind(0, 0), 0);
        due("behind(0, 1)", x.behind(0, 1), 3);
        due("behind(0, 2)", x.behind(0, 2), 1);
        due("behind(1, 0)", x.behind(1, 0), 1);
        due("behind(1, 1)", x.behind(1, 1), 0);
        due("behind(1, 2)", x.behind(1, 2), 2);
        due("behind(2, 1)", x.behind(2, 1), 9);
        due("it is not DONE", x.told(11), 5);
        due("the PAD stays", x.told(0), 12);
        due("behind(3, 0)", x.behind(3, 0), UNKNOWN);
        due("behind(7, 9)", x.behind(7, 9), UNKNOWN);
        due("behind(-1, 0)", x.behind(-1, 0), UNKNOWN);
        due("behind(0, 3)", x.behind(0, 3), OUTSIDE);
        due("behind(0, -1)", x.behind(0, -1), OUTSIDE);
        write(x, "A>B");
        due("behind(0, 0) of what can not be", x.behind(0, 0), NO);
        due("behind(3, 0) of what can not be", x.behind(3, 0), UNKNOWN);
        due("behind(0, 3) of what can not be", x.behind(0, 3), OUTSIDE);
        write(x, "A>");
        due("behind(0, 0) with a FAULT", x.behind(0, 0), NO);
        x.wipe();
        due("behind(0, 1) of none", x.behind(0, 1), 5);
    }

    private static void then() {
        promise = 13;
        TouchReign x = small();
        write(x, "A+.Ab.A>B.B>C");
        int[] want = {2, 1, 3, 2, 4};
        for (int what = 0; what < 5; what++) due("then(" + what + ")", x.then(what), want[what]);
        due("it is not DONE", x.told(2), 0);
        due("it is not DONE", x.told(4), 0);
        due("then(-1)", x.then(-1), OUTSIDE);
        due("then(5)", x.then(5), OUTSIDE);
        write(x, "A+.");
        int[] without = {0, NONE, 1, 0, NONE};
        for (int what = 0; what < 5; what++) due("then(" + what + ")", x.then(what), without[what]);
        write(x, "AbA>BB>A");
        for (int what = 0; what < 5; what++) due("then(" + what + ") of what can not be", x.then(what), NO);
        due("then(5) of what can not be", x.then(5), OUTSIDE);
        write(x, "?");
        due("then(0) with a FAULT", x.then(0), NO);
        x = new TouchReign();
        due("then(0) of nobody", x.then(0), NONE);
        due("then(1) of nobody", x.then(1), NONE);
    }

    private static void far() {
        promise = 14;
        TouchReign x = ring(7);
        int[] want = {0, 1, 2, 3, 3, 2, 1, NONE, NONE, NONE, NONE, NONE};
        for (int b = 0; b < 12; b++) {
            due("far(0, " + b + ")", x.far(0, b), want[b]);
            due("far(" + b + ", 0)", x.far(b, 0), want[b]);
        }
        due("far(9, 9)", x.far(9, 9), 0);
        x = new TouchReign();
        for (int i = 0; i < 11; i++) x.road(i, i + 1, true);
        due("far(0, 11) on a path", x.far(0, 11), 11);
        due("far(11, 0) on a path", x.far(11, 0), 11);
        x.road(5, 6, false);
        due("far(0, 11) on a path that is cut", x.far(0, 11), NONE);
        due("far(12, 0)", x.far(12, 0), UNKNOWN);
        due("far(0, 12)", x.far(0, 12), UNKNOWN);
        due("far(-1, 0)", x.far(-1, 0), UNKNOWN);
        due("far(0, -1)", x.far(0, -1), UNKNOWN);
        due("far(32, 32)", x.far(32, 32), UNKNOWN);
    }

    private static void rounds() {
        promise = 15;
        TouchReign x = new TouchReign();
        for (int i = 0; i < 11; i++) x.road(i, i + 1, true);
        due("rounds(0, 11) on a path", x.rounds(0, 11), 11);
        due("rounds(0, 1) on a path", x.rounds(0, 1), 1);
        due("rounds(0, 2) on a path", x.rounds(0, 2), 11);
        due("rounds(6, 4) on a path", x.rounds(6, 4), 6);
        due("rounds(4, 4)", x.rounds(4, 4), 0);
        x.home(11, true);
        due("rounds(0, 2), he comes home", x.rounds(0, 2), NONE);
        due("rounds(11, 11), at home", x.rounds(11, 11), NONE);
        due("rounds(11, 9), the KING is at home", x.rounds(11, 9), 11);
        due("rounds(0, 1), he can not go", x.rounds(0, 1), 1);
        x = ring(3);
        due("rounds(0, 1) in a ring of 3", x.rounds(0, 1), 1);
        x = ring(4);
        due("rounds(0, 2) in a ring of 4", x.rounds(0, 2), NONE);
        due("rounds(0, 5) of no way", x.rounds(0, 5), NONE);
        // he must stay: the KING's own coming touches him, and so would his
        x = new TouchReign();
        x.road(0, 1, true);
        x.home(1, true);
        due("rounds(0, 0)", x.rounds(0, 0), 0);
        due("rounds(1, 0)", x.rounds(1, 0), 1);
        due("rounds(0, 1)", x.rounds(0, 1), NONE);
        for (int bad : new int[] {-1, 12, Integer.MAX_VALUE}) {
            due("rounds(bad, 0)", x.rounds(bad, 0), UNKNOWN);
            due("rounds(0, bad)", x.rounds(0, bad), UNKNOWN);
        }
    }

    private static void heads() {
        promise = 16;
        TouchReign x = new TouchReign();
        for (int i = 0; i < 11; i++) x.road(i, i + 1, true);
        due("heads(0, 11) on a path", x.heads(0, 11), 1);
        due("heads(6, 4) on a path", x.heads(6, 4), 5);
        due("heads(6, 7) on a path", x.heads(6, 7), 7);
        due("heads(4, 4): touched already", x.heads(4, 4), NONE);
        x.home(0, true);
        due("heads(0, 0): at home", x.heads(0, 0), NONE);
        due("heads(5, 3): he comes home", x.heads(5, 3), NONE);
        // two ways lead to him who can not go: the least
        x = new TouchReign();
        x.road(5, 3, true);
        x.road(5, 8, true);
        x.road(3, 9, true);
        x.road(8, 9, true);
        x.road(3, 8, true);
        due("heads(5, 9): the least of two", x.heads(5, 9), 3);
        due("heads(9, 5): the least of two", x.heads(9, 5), 3);
        for (int bad : new int[] {-1, 12, Integer.MIN_VALUE}) {
            due("heads(bad, 0)", x.heads(bad, 0), UNKNOWN);
            due("heads(0, bad)", x.heads(0, bad), UNKNOWN);
        }
    }

    private static void flees() {
        promise = 17;
        TouchReign x = new TouchReign();
        for (int i = 0; i < 11; i++) x.road(i, i + 1, true);
        due("flees(4, 5) on a path", x.flees(4, 5), 6);
        due("flees(10, 11): he stays", x.flees(10, 11), 11);
        due("flees(4, 4): touched already", x.flees(4, 4), NONE);
        due("flees(0, 5): the least of as many", x.flees(0, 5), 4);
        x.home(7, true);
        due("flees(4, 5): to be home", x.flees(4, 5), 6);
        due("flees(0, 5): he stays free all ways", x.flees(0, 5), 4);
        due("flees(7, 7): at home", x.flees(7, 7), 7);
        x = ring(4);
        due("flees(0, 1): away", x.flees(0, 1), 2);
        due("flees(0, 2): he stays", x.flees(0, 2), 2);
        due("flees(0, 9): alone", x.flees(0, 9), 9);
        for (int bad : new int[] {-1, 12, Integer.MIN_VALUE}) {
            due("flees(bad, 0)", x.flees(bad, 0), UNKNOWN);
            due("flees(0, bad)", x.flees(0, bad), UNKNOWN);
        }
    }

    private static void shade() {
        promise = 18;
        TouchReign x = ring(12);
        int[] want = {12, 4, 3, 2, 2, 2, 1, 1, 1, 1, 1, 1};
        for (int r = 0; r < 12; r++) due("shade(" + r + ", 0)", x.shade(r, 0), want[r]);
        due("shade(1, 1)", x.shade(1, 1), 0b001001001001);
        due("shade(2, 1)", x.shade(2, 1), 0b000010000101);
        due("shade(6, 1)", x.shade(6, 1), 1);
        due("shade(0, 1)", x.shade(0, 1), 4095);
        x.home(5, true);
        due("shade(6, 1), HOME no matter", x.shade(6, 1), 1);
        x = new TouchReign();
        for (int i = 0; i < 12; i++) if (i != 7) x.road(7, i, true);
        due("shade(1, 0) of a star", x.shade(1, 0), 1);
        due("shade(1, 1) of a star", x.shade(1, 1), 128);
        due("shade(2, 1) of a star", x.shade(2, 1), 1);
        due("shade(-1, 0)", x.shade(-1, 0), OUTSIDE);
        due("shade(12, 0)", x.shade(12, 0), OUTSIDE);
        due("shade(0, -1)", x.shade(0, -1), OUTSIDE);
        due("shade(0, 2)", x.shade(0, 2), OUTSIDE);
    }

    private static void met() {
        promise = 19;
        TouchReign x = new TouchReign();
        due("met(0, 6)", x.met(0, 6), 1);
        due("met(6, 0)", x.met(6, 0), 2);
        due("met(3, 3)", x.met(3, 3), UNKNOWN);
        for (int bad : new int[] {-1, 7, NONE, Integer.MAX_VALUE}) {
            due("met(bad, 0)", x.met(bad, 0), UNKNOWN);
            due("met(0, bad)", x.met(0, bad), UNKNOWN);
        }
        for (int i = 3; i <= 8; i++) due("met(1, 2)", x.met(1, 2), i);
        due("met(1, 2), the ninth", x.met(1, 2), FULL);
        due("met(7, 2), the ninth", x.met(7, 2), UNKNOWN);
        due("told(6)", x.told(6), 8);
    }

    private static void unmeet() {
        promise = 20;
        TouchReign x = new TouchReign();
        due("unmeet() of none", x.unmeet(), 0);
        for (int i = 0; i < 8; i++) x.met(0, 1);
        due("unmeet()", x.unmeet(), 8);
        due("unmeet() again", x.unmeet(), 0);
        due("maybe(0)", x.maybe(0), 1);
        due("met(2, 3)", x.met(2, 3), 1);
        due("maybe(2)", x.maybe(2), 12);
        due("maybe(0)", x.maybe(0), 1);
    }

    private static TouchReign meetings(int... pairs) {
        TouchReign x = new TouchReign();
        for (int i = 0; i + 1 < pairs.length; i += 2) x.met(pairs[i], pairs[i + 1]);
        return x;
    }

    private static void maybe() {
        promise = 21;
        TouchReign x = meetings(0, 1, 1, 2, 2, 3, 3, 4, 4, 5, 5, 6);
        due("maybe(0)", x.maybe(0), 127);
        due("maybe(3)", x.maybe(3), 0b1111100);
        due("maybe(6)", x.maybe(6), 0b1100000);
        x = meetings(0, 1, 0, 1);
        due("maybe(0), no returns", x.maybe(0), 3);
        due("maybe(5), who met nobody", x.maybe(5), 32);
        // 1 got it from 0, so it can not come to 2 by 0 any more but if he kept it
        x = meetings(0, 1, 1, 0, 0, 2);
        due("maybe(0)", x.maybe(0), 7);
        due("maybe(1)", x.maybe(1), 7);
        for (int bad : new int[] {-1, 7, NONE, 31}) due("maybe(" + bad + ")", x.maybe(bad), UNKNOWN);
        due("told(2): it is no matter who is", x.told(2), NONE);
    }

    private static void touches() {
        promise = 22;
        TouchReign x = meetings(0, 1, 1, 2, 2, 3, 0, 3);
        due("touches(0, 0)", x.touches(0, 0), 0);
        due("touches(0, 1)", x.touches(0, 1), 1);
        due("touches(0, 2)", x.touches(0, 2), 2);
        due("touches(0, 3)", x.touches(0, 3), 1);
        due("touches(1, 0)", x.touches(1, 0), 1);
        due("touches(1, 3)", x.touches(1, 3), 2);
        due("touches(2, 0)", x.touches(2, 0), 2);
        due("touches(0, 6)", x.touches(0, 6), NONE);
        x = meetings(0, 1, 1, 2, 2, 0, 0, 3, 3, 0, 3, 1);
        due("touches(2, 0), the fewest", x.touches(2, 0), 1);
        due("touches(1, 0)", x.touches(1, 0), 1);
        for (int bad : new int[] {-1, 7, NONE}) {
            due("touches(bad, 0)", x.touches(bad, 0), UNKNOWN);
            due("touches(0, bad)", x.touches(0, bad), UNKNOWN);
        }
    }

    private static void fraction(TouchReign x, int king, int then, int t, long upper, long lower) {
        String call = "chance(" + king + ", " + then + ", " + t + ", ";
        due(call + "0)", x.chance(king, then, t, 0), upper);
        due(call + "1)", x.chance(king, then, t, 1), lower);
    }

    private static void chance() {
        promise = 23;
        TouchReign x = meetings(0, 1, 0, 1, 0, 1, 0, 1, 0, 1, 0, 1, 0, 1, 0, 1);
        fraction(x, 0, 0, 3, 5764801, 100000000);
        fraction(x, 0, 1, 3, 94235199, 100000000);
        fraction(x, 0, 1, 0, 0, 1);
        fraction(x, 0, 0, 0, 1, 1);
        fraction(x, 0, 1, 10, 1, 1);
        fraction(x, 0, 0, 10, 0, 1);
        fraction(x, 0, 0, 5, 1, 256);
        fraction(x, 4, 4, 7, 1, 1);
        fraction(x, 4, 0, 7, 0, 1);
        x = meetings(0, 1, 1, 2, 2, 0);
        // 0 keeps it twice (36 of 100), or it comes round by 1 and 2 (64 of 1000)
        fraction(x, 0, 0, 4, 53, 125);
        for (int part = 0; part < 2; part++) {
            due("chance(7, 0, 0, part)", x.chance(7, 0, 0, part), TouchReign.LOST + UNKNOWN);
            due("chance(0, -1, 11, part)", x.chance(0, -1, 11, part), TouchReign.LOST + UNKNOWN);
            due("chance(0, 0, 11, part)", x.chance(0, 0, 11, part), TouchReign.LOST + OUTSIDE);
            due("chance(0, 0, -1, part)", x.chance(0, 0, -1, part), TouchReign.LOST + OUTSIDE);
        }
        due("chance(0, 0, 5, -1)", x.chance(0, 0, 5, -1), TouchReign.LOST + OUTSIDE);
        due("chance(0, 0, 5, 2)", x.chance(0, 0, 5, 2), TouchReign.LOST + OUTSIDE);
    }

    private static void seen() {
        promise = 24;
        TouchReign x = new TouchReign();
        due("seen(0, 11, true)", x.seen(0, 11, true), 1);
        due("seen(4, 4, false)", x.seen(4, 4, false), 2);
        for (int bad : new int[] {-1, 12, NONE}) {
            due("seen(bad, 0)", x.seen(bad, 0, true), UNKNOWN);
            due("seen(0, bad)", x.seen(0, bad, false), UNKNOWN);
        }
        for (int i = 3; i <= 8; i++) due("seen(1, 2, true)", x.seen(1, 2, true), i);
        due("seen(1, 2, true), the ninth", x.seen(1, 2, true), FULL);
        due("seen(1, 12, true), the ninth", x.seen(1, 12, true), UNKNOWN);
        due("told(7)", x.told(7), 8);
    }

    private static void forget() {
        promise = 25;
        TouchReign x = new TouchReign();
        due("forget() of none", x.forget(), 0);
        for (int i = 0; i < 8; i++) x.seen(0, 1, true);
        due("lairs()", x.lairs(), 0);
        due("forget()", x.forget(), 8);
        due("forget() again", x.forget(), 0);
        due("lairs()", x.lairs(), 4095);
        x.road(0, 1, true);
        x.seen(1, 0, false);
        due("lairs() from anew", x.lairs(), 2);
    }

    private static void lairs() {
        promise = 26;
        TouchReign x = ring(7);
        x.seen(0, 1, true);
        due("lairs()", x.lairs(), 0b0001110);
        x.seen(6, 5, false);
        due("lairs()", x.lairs(), 0b0000110);
        x.forget();
        x.seen(0, 1, false);
        due("lairs(), not nearer", x.lairs(), 0b1110001);
        x.forget();
        x.seen(0, 3, true);
        due("lairs(), no ROAD between", x.lairs(), 0b0011100);
        x.forget();
        x.seen(0, 8, false);
        due("lairs(), not come to", x.lairs(), 0);
        x.road(8, 0, true);
        due("lairs(), the ROADS of now", x.lairs(), 0b1111111);
        x.forget();
        due("lairs(), 0 SIGHTS", x.lairs(), 4095);
        x.seen(2, 2, true);
        due("lairs(), nowhere nearer", x.lairs(), 0);
    }

    private static void ask() {
        promise = 27;
        TouchReign x = new TouchReign();
        for (int i = 0; i < 11; i++) x.road(i, i + 1, true);
        due("ask(0) on a path", x.ask(0), 0);
        due("ask(1) on a path", x.ask(1), 1);
        x = ring(12);
        due("ask(0) in a ring", x.ask(0), 0);
        due("ask(1) in a ring", x.ask(1), 2);
        x = new TouchReign();
        for (int i = 0; i < 11; i++) x.road(11, i, true);
        x.road(4, 5, true);
        x.road(4, 6, true);
        due("ask(0) of a star", x.ask(0), 4);
        due("ask(1) of a star", x.ask(1), 8);
        x.seen(4, 5, true);
        due("lairs()", x.lairs(), 32);
        due("ask(0) of one", x.ask(0), 0);
        due("ask(1) of one", x.ask(1), 1);
        x.seen(5, 5, true);
        due("ask(0) of none", x.ask(0), NONE);
        due("ask(1) of none", x.ask(1), NONE);
        due("ask(2) of none", x.ask(2), OUTSIDE);
        due("ask(-1)", x.ask(-1), OUTSIDE);
        x = new TouchReign();
        x.road(7, 8, true);
        due("ask(0), whatever or NONE", x.ask(0), 7);
        due("ask(1), whatever or NONE", x.ask(1), 10);
    }

    private static void year() {
        promise = 28;
        TouchReign x = new TouchReign();
        for (int a = 0; a < 12; a++) for (int b = a + 1; b < 12; b++) x.road(a, b, true);
        for (int who = 0; who < 7; who++) x.one(who, 3, 9);
        x.crown(0);
        // 74: of E, 10 left over by 8 is 2, he runs to 1; that is 1 BREATH less
        due("year(0, 1, 2)", x.year(0, 1, 2), 62);
        due("year(0, 1, 0)", x.year(0, 1, 0), 0);
        due("year(0, 1, 1)", x.year(0, 1, 1), 0);
        due("nothing is DONE", x.told(51), 9);
        int touches = 0;
        for (int seed = 0; seed < 200; seed++) touches += x.year(seed, 99, 0);
        due("some touch in years", touches > 0 ? 1 : 0, 1);
        due("the KING stays", x.told(2), 0);
        x.crown(-1);
        due("year(5, 99, 1) of nobody", x.year(5, 99, 1), NONE);
        due("year(5, 99, 0) of nobody", x.year(5, 99, 0), 0);
        due("year(9999, 99, 2)", x.year(9999, 99, 2) >= 0 ? 1 : 0, 1);
        due("year(-1, 1, 0)", x.year(-1, 1, 0), OUTSIDE);
        due("year(10000, 1, 0)", x.year(10000, 1, 0), OUTSIDE);
        due("year(0, 0, 0)", x.year(0, 0, 0), OUTSIDE);
        due("year(0, 100, 0)", x.year(0, 100, 0), OUTSIDE);
        due("year(0, 1, -1)", x.year(0, 1, -1), OUTSIDE);
        due("year(0, 1, 3)", x.year(0, 1, 3), OUTSIDE);
    }

    private static void images() {
        promise = 29;
        TouchReign x = small();
        does(x, "AbA>B.B*", 4);
        x.home(3, true);
        x.met(0, 1);
        x.seen(0, 1, true);
        write(x, "A+");
        due("image(0)", x.image(0), 1);
        due("image(-1)", x.image(-1), OUTSIDE);
        due("image(2)", x.image(2), OUTSIDE);
        promise = 30;
        due("restore(1), not kept", x.restore(1), STATE);
        due("restore(-1)", x.restore(-1), OUTSIDE);
        due("restore(2)", x.restore(2), OUTSIDE);
        x.road(0, 1, false);
        x.home(4, true);
        does(x, "A+B+C*.", 4);
        x.leave(0);
        x.one(4, 4, 4);
        x.crown(4);
        x.met(2, 3);
        x.met(2, 3);
        x.forget();
        x.seen(1, 0, false);
        x.seen(1, 0, false);
        write(x, "AA");
        due("image(1)", x.image(1), 1);
        due("restore(0)", x.restore(0), 1);
        int[] want = {2, 7, 1, 0, 1, 8, 1, 1};
        for (int what = 0; what < want.length; what++) due("told(" + what + ")", x.told(what), want[what]);
        int[][] ones = {{1, 4, 0, 0}, {1, 0, 1, 1}, {1, 9, 0, 0}};
        for (int who = 0; who < 3; who++) {
            for (int i = 0; i < 4; i++) due("told of " + who + ", " + i, x.told(10 + 10 * who + i), ones[who][i]);
        }
        due("told(100)", x.told(100), 2);
        due("maybe(1)", x.maybe(1), 3);
        due("lairs()", x.lairs(), 0b1110);
        due("restore(1)", x.restore(1), 1);
        int[] later = {2, 22, 4, NONE, 2, 24, 3, 2};
        for (int what = 0; what < later.length; what++) due("told(" + what + ")", x.told(what), later[what]);
        due("told(100)", x.told(100), 0);
        due("maybe(3)", x.maybe(3), 12);
        x.met(5, 6);
        x.one(6, 6, 6);
        x.road(7, 8, true);
        x.restore(1);
        due("an IMAGE stays as it was: told(1)", x.told(1), 22);
        due("an IMAGE stays as it was: told(6)", x.told(6), 3);
        due("an IMAGE stays as it was: told(107)", x.told(107), 0);
        due("restore(0), not gone", x.restore(0), 1);
        due("told(1)", x.told(1), 7);
        x.leave(2);
        due("image(0) anew", x.image(0), 1);
        x.one(2, 0, 0);
        due("restore(0)", x.restore(0), 1);
        due("told(1)", x.told(1), 3);
    }

    private static void told() {
        promise = 31;
        TouchReign x = small();
        does(x, "AbA>B.B*", 4);
        x.home(6, true);
        x.met(0, 1);
        x.met(0, 1);
        x.seen(0, 1, true);
        write(x, "A+A");
        int[] want = {3, 7, 1, 0, 1, 64, 2, 1, OUTSIDE, OUTSIDE, 1, 4, 0, 0, OUTSIDE, OUTSIDE, OUTSIDE, OUTSIDE,
            OUTSIDE, OUTSIDE, 1, 0, 1, 1, OUTSIDE};
        for (int what = 0; what < want.length; what++) due("told(" + what + ")", x.told(what), want[what]);
        for (int what = 40; what < 100; what++) due("told(" + what + ")", x.told(what), OUTSIDE);
        int[] roads = {2, 5, 10, 4, 0, 0, 0, 0, 0, 0, 0, 0};
        for (int place = 0; place < 12; place++) due("told(100 + " + place + ")", x.told(100 + place), roads[place]);
        due("told(112)", x.told(112), OUTSIDE);
        due("told(-1)", x.told(-1), OUTSIDE);
        for (int bad : FAR_OUT) due("told(" + bad + ")", x.told(bad), OUTSIDE);
        x.one(6, 11, 3);
        due("told(70)", x.told(70), 11);
        due("told(71)", x.told(71), 3);
        due("told(74)", x.told(74), OUTSIDE);
        due("told(80)", x.told(80), OUTSIDE);
        due("told(90)", x.told(90), OUTSIDE);
    }

    public static void main(String[] args) {
        newObject();
        road();
        home();
        one();
        leave();
        crown();
        say();
        wipe();
        fault();
        judge();
        done();
        behind();
        then();
        far();
        rounds();
        heads();
        flees();
        shade();
        met();
        unmeet();
        maybe();
        touches();
        chance();
        seen();
        forget();
        lairs();
        ask();
        year();
        images();
        told();
        System.out.println(wrong == 0 ? "all promises hold" : wrong + " answers are not as due");
        if (wrong != 0) System.exit(1);
    }
}
