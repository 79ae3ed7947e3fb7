import java.math.BigInteger;
import java.util.ArrayList;
import java.util.Arrays;
import java.util.HashMap;
import java.util.List;
import java.util.Map;
import java.util.Random;
import java.util.TreeMap;

/**
 * Long runs of drawn calls, each answer beside that of a plain model. The model is written apart from the class and
 * by other ways (tables of distances, values by repeated sweeps, recursion over all that can happen).
 */
public final class ModelTest {
    private static final int NONE = -6, UNKNOWN = -1, OUTSIDE = -2, STATE = -3, FULL = -4, NO = -5;
    private static final long LOST = -1000000000000000000L;
    private static final int NEVER = 1000000;
    private static final int RUNS = 900, CALLS = 512;

    static final class Person {
        int place, breath, reigned;
        boolean crossed;

        Person twin() {
            Person p = new Person();
            p.place = place;
            p.breath = breath;
            p.reigned = reigned;
            p.crossed = crossed;
            return p;
        }
    }

    static final class World {
        boolean[][] road = new boolean[12][12];
        boolean[] home = new boolean[12];
        Map<Integer, Person> people = new TreeMap<>();
        Integer king, last;
        int minute;
        List<int[]> meetings = new ArrayList<>();
        List<int[]> sights = new ArrayList<>();

        World twin() {
            World w = new World();
            for (int i = 0; i < 12; i++) w.road[i] = road[i].clone();
            w.home = home.clone();
            for (Map.Entry<Integer, Person> e : people.entrySet()) w.people.put(e.getKey(), e.getValue().twin());
            w.king = king;
            w.last = last;
            w.minute = minute;
            w.meetings = new ArrayList<>(meetings);
            w.sights = new ArrayList<>(sights);
            return w;
        }

        /** 0 if the act can be, else the least reason. All reasons are gathered, then the least is taken. */
        int reason(String act) {
            List<Integer> all = new ArrayList<>();
            if (act.equals(".")) return minute == 99 ? 9 : 0;
            Person p = people.get(act.charAt(0) - 'A');
            if (p == null) return 1;
            char verb = act.charAt(1);
            if (verb == '+' || verb == '*') return 0;
            if (p.crossed) all.add(4);
            if (verb == '>') {
                int whom = act.charAt(2) - 'A';
                Person q = people.get(whom);
                if (q == null) return 1;
                if (p == q) all.add(2);
                if (king == null || king != act.charAt(0) - 'A') all.add(3);
                if (p.place != q.place) all.add(5);
                if (q.crossed) all.add(6);
                if (home[p.place]) all.add(7);
                if (last != null && last == whom) all.add(8);
            } else {
                if (!road[p.place][verb - 'a']) all.add(2);
                if (p.breath == 0) all.add(3);
            }
            return all.stream().mapToInt(Integer::intValue).min().orElse(0);
        }

        void act(String act) {
            if (act.equals(".")) {
                minute++;
                if (king != null) people.get(king).reigned++;
                return;
            }
            int who = act.charAt(0) - 'A';
            Person p = people.get(who);
            switch (act.charAt(1)) {
                case '+': p.breath = p.breath >= 7 ? 9 : p.breath + 2; break;
                case '*': p.crossed = !p.crossed; break;
                case '>': last = who; king = act.charAt(2) - 'A'; break;
                default: p.place = act.charAt(1) - 'a'; p.breath -= 1;
            }
        }

        int[][] distances() {
            int[][] d = new int[12][12];
            for (int i = 0; i < 12; i++) for (int j = 0; j < 12; j++) d[i][j] = i == j ? 0 : road[i][j] ? 1 : NEVER;
            for (int k = 0; k < 12; k++) for (int i = 0; i < 12; i++) for (int j = 0; j < 12; j++) {
                d[i][j] = Math.min(d[i][j], d[i][k] + d[k][j]);
            }
            return d;
        }

        boolean touched(int k, int o) {
            return k == o && !home[k];
        }

        boolean step(int a, int b) {
            return a == b || road[a][b];
        }

        /** With how many rounds more, the king having gone to k. */
        int afterKing(int[][] v, int k, int o) {
            if (touched(k, o)) return 0;
            int most = 0;
            for (int b = 0; b < 12; b++) if (step(o, b)) most = Math.max(most, v[k][b]);
            return most;
        }

        int[][] chase() {
            int[][] v = new int[12][12];
            for (int k = 0; k < 12; k++) for (int o = 0; o < 12; o++) v[k][o] = touched(k, o) ? 0 : NEVER;
            boolean changed = true;
            while (changed) {
                changed = false;
                int[][] next = new int[12][12];
                for (int k = 0; k < 12; k++) for (int o = 0; o < 12; o++) {
                    int best = NEVER;
                    for (int a = 0; a < 12; a++) if (step(k, a)) best = Math.min(best, 1 + afterKing(v, a, o));
                    next[k][o] = touched(k, o) ? 0 : Math.min(best, NEVER);
                    changed |= next[k][o] != v[k][o];
                }
                v = next;
            }
            return v;
        }

        int shade(int r) {
            int[][] d = distances();
            for (int count = 1; count <= 12; count++) for (int set = 0; set < 4096; set++) {
                if (Integer.bitCount(set) != count) continue;
                boolean all = true;
                for (int p = 0; p < 12; p++) {
                    boolean some = false;
                    for (int h = 0; h < 12; h++) some |= (set >> h & 1) == 1 && d[p][h] <= r;
                    all &= some;
                }
                if (all) return set;
            }
            throw new IllegalStateException();
        }

        /** Goes through all that can happen; out gets, by who is king at the end, fewest touches and the chance. */
        void play(int i, int k, int l, int touches, long weight, int t, long[][] out) {
            if (i == meetings.size()) {
                out[k][0] = Math.min(out[k][0], touches);
                out[k][1] += weight;
                return;
            }
            int[] m = meetings.get(i);
            int other = m[0] == k ? m[1] : m[1] == k ? m[0] : -1;
            if (other == -1 || other == l) {
                play(i + 1, k, l, touches, weight * 10, t, out);
                return;
            }
            play(i + 1, k, l, touches, weight * (10 - t), t, out);
            play(i + 1, other, k, touches + 1, weight * t, t, out);
        }

        long[][] played(int k, int t) {
            long[][] out = new long[7][];
            for (int i = 0; i < 7; i++) out[i] = new long[] {NEVER, 0};
            play(0, k, -1, 0, 1, t, out);
            return out;
        }

        int lairs() {
            int[][] d = distances();
            int set = 0;
            for (int p = 0; p < 12; p++) {
                boolean fits = true;
                for (int[] s : sights) {
                    fits &= d[p][s[0]] < NEVER && d[p][s[1]] < NEVER && (d[p][s[1]] < d[p][s[0]]) == (s[2] == 1);
                }
                if (fits) set |= 1 << p;
            }
            return set;
        }

        int ask(int what) {
            int[][] d = distances();
            int set = lairs();
            if (set == 0) return NONE;
            int best = -1, fewest = 99;
            for (int q = 0; q < 12; q++) {
                Map<Integer, Integer> left = new HashMap<>();
                for (int p = 0; p < 12; p++) if ((set >> p & 1) == 1) left.merge(Math.min(d[q][p], NEVER), 1, Integer::sum);
                int most = left.values().stream().mapToInt(Integer::intValue).max().orElse(0);
                if (most < fewest) {
                    fewest = most;
                    best = q;
                }
            }
            return what == 0 ? best : fewest;
        }
    }

    static final class Model {
        World w = new World();
        String pad = "";
        World[] images = new World[2];
        int touches, first;

        static boolean place(int p) {
            return p >= 0 && p <= 11;
        }

        static boolean one(int o) {
            return o >= 0 && o <= 6;
        }

        static int orNone(Integer i) {
            return i == null ? NONE : i;
        }

        int roads() {
            int n = 0;
            for (int a = 0; a < 12; a++) for (int b = 0; b < a; b++) if (w.road[a][b]) n++;
            return n;
        }

        int homes() {
            int set = 0;
            for (int p = 0; p < 12; p++) if (w.home[p]) set |= 1 << p;
            return set;
        }

        /** The longest beginning that is acts, then what is left tells the fault. */
        int fault() {
            String rest = pad.replaceFirst("^(\\.|[A-G]([a-l+*]|>[A-G]))*", "");
            if (rest.isEmpty()) return NONE;
            int at = pad.length() - rest.length();
            if (rest.matches("[A-G]>.*")) return at + 2;
            return rest.matches("[A-G].*") ? at + 1 : at;
        }

        List<String> acts() {
            List<String> all = new ArrayList<>();
            String rest = pad;
            while (!rest.isEmpty()) {
                int n = rest.charAt(0) == '.' ? 1 : rest.charAt(1) == '>' ? 3 : 2;
                all.add(rest.substring(0, n));
                rest = rest.substring(n);
            }
            return all;
        }

        /** {act, why} of the first that can not be; w2 goes as far as it can. */
        int[] judged(World w2) {
            List<String> all = acts();
            touches = 0;
            first = NONE;
            for (int i = 0; i < all.size(); i++) {
                int why = w2.reason(all.get(i));
                if (why != 0) return new int[] {i, why};
                w2.act(all.get(i));
                if (all.get(i).contains(">")) {
                    touches++;
                    if (first == NONE) first = i;
                }
            }
            return new int[] {NONE, NONE};
        }

        World behind() {
            if (fault() != NONE) return null;
            World w2 = w.twin();
            return judged(w2)[0] == NONE ? w2 : null;
        }

        int then(int what) {
            if (what < 0 || what > 4) return OUTSIDE;
            World b = behind();
            if (b == null) return NO;
            return new int[] {orNone(b.king), orNone(b.last), b.minute, touches, first}[what];
        }

        int behindOf(int who, int what) {
            if (!w.people.containsKey(who)) return UNKNOWN;
            if (what < 0 || what > 2) return OUTSIDE;
            World b = behind();
            if (b == null) return NO;
            Person p = b.people.get(who);
            return new int[] {p.place, p.breath, p.reigned}[what];
        }

        int done() {
            World b = behind();
            if (b == null) return NO;
            int n = acts().size();
            w = b;
            pad = "";
            return n;
        }

        int chased(int what, int k, int o) {
            if (!place(k) || !place(o)) return UNKNOWN;
            int[][] v = w.chase();
            if (what == 0) return v[k][o] == NEVER ? NONE : v[k][o];
            if (what == 1) {
                if (v[k][o] == NEVER || v[k][o] == 0) return NONE;
                for (int a = 0; a < 12; a++) if (w.step(k, a) && 1 + w.afterKing(v, a, o) == v[k][o]) return a;
                throw new IllegalStateException();
            }
            if (w.touched(k, o)) return NONE;
            int best = -1;
            for (int b = 0; b < 12; b++) if (w.step(o, b) && (best < 0 || v[k][b] > v[k][best])) best = b;
            return best;
        }

        long chance(int k, int end, int t, int part) {
            if (!one(k) || !one(end)) return LOST + UNKNOWN;
            if (t < 0 || t > 10 || part < 0 || part > 1) return LOST + OUTSIDE;
            BigInteger upper = BigInteger.valueOf(w.played(k, t)[end][1]);
            BigInteger lower = BigInteger.TEN.pow(w.meetings.size());
            return (part == 0 ? upper : lower).divide(upper.gcd(lower)).longValueExact();
        }

        int year(int seed, int m, int what) {
            if (seed < 0 || seed > 9999 || m < 1 || m > 99 || what < 0 || what > 2) return OUTSIDE;
            World y = w.twin();
            int count = 0;
            long x = seed;
            for (int i = 0; i < m; i++) {
                x = (75 * x + 74) % 65537;
                char who = (char) ('A' + x % 7);
                int kind = (int) (x / 7 % 8);
                String act = kind < 3 ? "" + who + (char) ('a' + x / 56 % 12)
                    : kind < 5 ? who + ">" + (char) ('A' + x / 56 % 7)
                    : kind == 5 ? who + "+" : kind == 6 ? who + "*" : ".";
                if (y.reason(act) != 0) continue;
                y.act(act);
                if (kind == 3 || kind == 4) count++;
            }
            int breath = 0;
            for (Person p : y.people.values()) breath += p.breath;
            return what == 0 ? count : what == 1 ? orNone(y.king) : breath;
        }

        int told(int what) {
            int ones = 0;
            for (int o : w.people.keySet()) ones |= 1 << o;
            Map<Integer, Integer> all = new HashMap<>();
            int[] plain = {pad.length(), ones, orNone(w.king), orNone(w.last), w.minute, homes(), w.meetings.size(),
                w.sights.size()};
            for (int i = 0; i < plain.length; i++) all.put(i, plain[i]);
            for (Map.Entry<Integer, Person> e : w.people.entrySet()) {
                Person p = e.getValue();
                int[] four = {p.place, p.breath, p.crossed ? 1 : 0, p.reigned};
                for (int i = 0; i < 4; i++) all.put(10 * (1 + e.getKey()) + i, four[i]);
            }
            for (int a = 0; a < 12; a++) {
                int set = 0;
                for (int b = 0; b < 12; b++) if (w.road[a][b]) set |= 1 << b;
                all.put(100 + a, set);
            }
            return all.getOrDefault(what, OUTSIDE);
        }

        long call(String name, int[] a, boolean is) {
            switch (name) {
                case "road":
                    if (!place(a[0]) || !place(a[1]) || a[0] == a[1]) return UNKNOWN;
                    w.road[a[0]][a[1]] = is;
                    w.road[a[1]][a[0]] = is;
                    return roads();
                case "home":
                    if (!place(a[0])) return UNKNOWN;
                    w.home[a[0]] = is;
                    return homes();
                case "one": {
                    if (!one(a[0])) return UNKNOWN;
                    if (!place(a[1]) || a[2] < 0 || a[2] > 9) return OUTSIDE;
                    Person p = new Person();
                    p.place = a[1];
                    p.breath = a[2];
                    w.people.put(a[0], p);
                    return w.people.size();
                }
                case "leave":
                    if (w.people.remove(a[0]) == null) return UNKNOWN;
                    if (w.king != null && w.king == a[0]) w.king = null;
                    if (w.last != null && w.last == a[0]) w.last = null;
                    return w.people.size();
                case "crown": {
                    if (a[0] != -1 && !w.people.containsKey(a[0])) return UNKNOWN;
                    int was = orNone(w.king);
                    w.king = a[0] == -1 ? null : a[0];
                    w.last = null;
                    return was;
                }
                case "say":
                    if (a[0] < 33 || a[0] > 126) return OUTSIDE;
                    if (pad.length() == 60) return FULL;
                    pad += (char) a[0];
                    return pad.length();
                case "wipe": {
                    int n = pad.length();
                    pad = "";
                    return n;
                }
                case "fault": return fault();
                case "judge":
                    if (a[0] != 0 && a[0] != 1) return OUTSIDE;
                    return fault() != NONE ? NO : judged(w.twin())[a[0]];
                case "done": return done();
                case "behind": return behindOf(a[0], a[1]);
                case "then": return then(a[0]);
                case "far": {
                    if (!place(a[0]) || !place(a[1])) return UNKNOWN;
                    int d = w.distances()[a[0]][a[1]];
                    return d >= NEVER ? NONE : d;
                }
                case "rounds": return chased(0, a[0], a[1]);
                case "heads": return chased(1, a[0], a[1]);
                case "flees": return chased(2, a[0], a[1]);
                case "shade":
                    if (a[0] < 0 || a[0] > 11 || a[1] < 0 || a[1] > 1) return OUTSIDE;
                    return a[1] == 1 ? w.shade(a[0]) : Integer.bitCount(w.shade(a[0]));
                case "met":
                    if (!one(a[0]) || !one(a[1]) || a[0] == a[1]) return UNKNOWN;
                    if (w.meetings.size() == 8) return FULL;
                    w.meetings.add(new int[] {a[0], a[1]});
                    return w.meetings.size();
                case "unmeet": {
                    int n = w.meetings.size();
                    w.meetings.clear();
                    return n;
                }
                case "maybe": {
                    if (!one(a[0])) return UNKNOWN;
                    long[][] out = w.played(a[0], 5);
                    int set = 0;
                    for (int i = 0; i < 7; i++) if (out[i][0] < NEVER) set |= 1 << i;
                    return set;
                }
                case "touches": {
                    if (!one(a[0]) || !one(a[1])) return UNKNOWN;
                    long n = w.played(a[0], 5)[a[1]][0];
                    return n == NEVER ? NONE : n;
                }
                case "chance": return chance(a[0], a[1], a[2], a[3]);
                case "seen":
                    if (!place(a[0]) || !place(a[1])) return UNKNOWN;
                    if (w.sights.size() == 8) return FULL;
                    w.sights.add(new int[] {a[0], a[1], is ? 1 : 0});
                    return w.sights.size();
                case "forget": {
                    int n = w.sights.size();
                    w.sights.clear();
                    return n;
                }
                case "lairs": return w.lairs();
                case "ask": return a[0] == 0 || a[0] == 1 ? w.ask(a[0]) : OUTSIDE;
                case "year": return year(a[0], a[1], a[2]);
                case "image":
                    if (a[0] != 0 && a[0] != 1) return OUTSIDE;
                    images[a[0]] = w.twin();
                    return 1;
                case "restore":
                    if (a[0] != 0 && a[0] != 1) return OUTSIDE;
                    if (images[a[0]] == null) return STATE;
                    w = images[a[0]].twin();
                    return 1;
                case "told": return told(a[0]);
                default: throw new IllegalStateException(name);
            }
        }
    }

    static long call(TouchReign x, String name, int[] a, boolean is) {
        switch (name) {
            case "road": return x.road(a[0], a[1], is);
            case "home": return x.home(a[0], is);
            case "one": return x.one(a[0], a[1], a[2]);
            case "leave": return x.leave(a[0]);
            case "crown": return x.crown(a[0]);
            case "say": return x.say(a[0]);
            case "wipe": return x.wipe();
            case "fault": return x.fault();
            case "judge": return x.judge(a[0]);
            case "done": return x.done();
            case "behind": return x.behind(a[0], a[1]);
            case "then": return x.then(a[0]);
            case "far": return x.far(a[0], a[1]);
            case "rounds": return x.rounds(a[0], a[1]);
            case "heads": return x.heads(a[0], a[1]);
            case "flees": return x.flees(a[0], a[1]);
            case "shade": return x.shade(a[0], a[1]);
            case "met": return x.met(a[0], a[1]);
            case "unmeet": return x.unmeet();
            case "maybe": return x.maybe(a[0]);
            case "touches": return x.touches(a[0], a[1]);
            case "chance": return x.chance(a[0], a[1], a[2], a[3]);
            case "seen": return x.seen(a[0], a[1], is);
            case "forget": return x.forget();
            case "lairs": return x.lairs();
            case "ask": return x.ask(a[0]);
            case "year": return x.year(a[0], a[1], a[2]);
            case "image": return x.image(a[0]);
            case "restore": return x.restore(a[0]);
            case "told": return x.told(a[0]);
            default: throw new IllegalStateException(name);
        }
    }

    // name, how often it is drawn, then the greatest of each good argument
    private static final String[] PLAN = {
        "road 10 11 11", "home 3 11", "one 4 6 11 9", "leave 1 6", "crown 3 6", "say 6 126", "wipe 1", "fault 2",
        "judge 6 1", "done 5", "behind 4 6 2", "then 6 4", "far 4 11 11", "rounds 5 11 11", "heads 4 11 11",
        "flees 4 11 11", "shade 1 11 1", "met 5 6 6", "unmeet 1", "maybe 3 6", "touches 4 6 6", "chance 4 6 6 10 1",
        "seen 3 11 11", "forget 1", "lairs 3", "ask 3 1", "year 4 9999 99 2", "image 1 1", "restore 1 1", "told 8 111",
    };
    private static final int[] ODD = {-1, -2, -6, 7, 12, 32, 64, 100, 127, 10000, Integer.MIN_VALUE,
        Integer.MAX_VALUE, -1000000};

    private final Random random;
    private final TouchReign x = new TouchReign();
    private final Model model = new Model();
    private final StringBuilder story = new StringBuilder();
    private int calls = 0;

    ModelTest(long seed) {
        random = new Random(seed);
    }

    private boolean agree(String name, int[] a, boolean is) {
        calls++;
        long want = model.call(name, a, is);
        long got = call(x, name, a, is);
        story.append(name).append(Arrays.toString(a)).append(is).append(" = ").append(want).append('\n');
        if (got == want) return true;
        System.out.println(story + "the last one answered " + got);
        return false;
    }

    private boolean drawn() {
        int all = 0;
        for (String p : PLAN) all += Integer.parseInt(p.split(" ")[1]);
        int at = random.nextInt(all);
        int i = 0;
        while (at >= Integer.parseInt(PLAN[i].split(" ")[1])) at -= Integer.parseInt(PLAN[i++].split(" ")[1]);
        String[] parts = PLAN[i].split(" ");
        int[] a = new int[parts.length - 2];
        for (int j = 0; j < a.length; j++) {
            int most = Integer.parseInt(parts[j + 2]);
            a[j] = random.nextInt(40) == 0 ? ODD[random.nextInt(ODD.length)] : random.nextInt(most + 1);
            if (random.nextInt(60) == 0) a[j] = most + 1;
        }
        return agree(parts[0], a, random.nextInt(10) < 7);
    }

    /** An act that can be, if one is found, else any. */
    private String drawnAct(World w) {
        String act = ".";
        for (int i = 0; i < 25; i++) {
            char who = (char) ('A' + random.nextInt(7));
            if (w.king != null && random.nextInt(2) == 0) who = (char) ('A' + w.king);
            switch (random.nextInt(9)) {
                case 0: act = who + "+"; break;
                case 1: act = who + "*"; break;
                case 2: act = "."; break;
                case 3: case 4: case 5: act = "" + who + (char) ('a' + random.nextInt(12)); break;
                default: act = who + ">" + (char) ('A' + random.nextInt(7));
            }
            if (w.reason(act) == 0) return act;
        }
        return act;
    }

    private boolean days() {
        if (!agree("wipe", new int[0], true)) return false;
        World w = model.w.twin();
        StringBuilder text = new StringBuilder();
        int most = random.nextInt(4) == 0 ? 62 : random.nextInt(30);
        boolean minutes = random.nextInt(12) == 0;
        while (text.length() < most) {
            String act = minutes ? "." : drawnAct(w);
            text.append(act);
            if (w.reason(act) == 0) w.act(act);
            else if (random.nextInt(3) == 0) break;
        }
        if (random.nextInt(8) == 0) text.append("A>B+*.aGlHm!".charAt(random.nextInt(12)));
        for (char sign : text.toString().toCharArray()) {
            if (!agree("say", new int[] {sign}, true)) return false;
        }
        return agree("fault", new int[0], true) && agree("judge", new int[] {0}, true)
            && agree("judge", new int[] {1}, true) && agree("then", new int[] {random.nextInt(5)}, true)
            && (random.nextInt(3) == 0 || agree("done", new int[0], true));
    }

    private boolean run() {
        // DAYS take up to 75 calls, and the look at all that is told 112
        while (calls < CALLS - 190) {
            if (!(random.nextInt(40) == 0 ? days() : drawn())) return false;
        }
        for (int what = 0; what < 112; what++) {
            if (call(x, "told", new int[] {what}, true) != model.told(what)) {
                System.out.println(story + "told(" + what + ") differs");
                return false;
            }
        }
        return true;
    }

    public static void main(String[] args) {
        long from = args.length > 0 ? Long.parseLong(args[0]) : 0;
        int runs = args.length > 1 ? Integer.parseInt(args[1]) : RUNS;
        for (long seed = from; seed < from + runs; seed++) {
            if (!new ModelTest(seed).run()) {
                System.out.println("seed " + seed + ": the class and the model differ");
                System.exit(1);
            }
        }
        System.out.println("the class and the model agree in " + runs + " runs");
    }
}
