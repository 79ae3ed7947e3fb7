/**
 * A state in which whoever has been touched last is king. The document ../shared/DOC.md numbers what each call
 * promises; words in capitals here (PLACE, ONE, ROAD ..) are its words.
 *
 * No call makes arrays, but for the first keeping of each IMAGE: rows are made once and used again.
 */
public final class TouchReign {
    public static final int NONE = -6, UNKNOWN = -1, OUTSIDE = -2, STATE = -3, FULL = -4, NO = -5;
    public static final long LOST = -1000000000000000000L;

    private static final int PLACES = 12, ONES = 7, ALL_PLACES = (1 << PLACES) - 1;
    private static final int MOST_BREATH = 9, LAST_MINUTE = 99;
    private static final int MOST_SIGNS = 60, MOST_MEETINGS = 8, MOST_SIGHTS = 8, IMAGES = 2;
    private static final int MOST_SEED = 9999, MOST_YEAR_ACTS = 99, TENTHS = 10;
    private static final int RUN = 0, TOUCH = 1, REST = 2, FINGERS = 3, MINUTE = 4;

    private final Realm realm = new Realm();
    private final Pad pad = new Pad();
    private final Trial trial = new Trial();
    private final Chase chase = new Chase();
    private final Shade shading = new Shade();
    private final Realm[] images = new Realm[IMAGES];

    public TouchReign() {
    }

    // ---- 1 the land, ones, days

    public int road(int a, int b, boolean is) {
        if (!isPlace(a) || !isPlace(b) || a == b) return UNKNOWN;
        realm.land.lay(a, b, is);
        return realm.land.countRoads();
    }

    public int home(int place, boolean is) {
        if (!isPlace(place)) return UNKNOWN;
        realm.land.homes = marked(realm.land.homes, place, is);
        return realm.land.homes;
    }

    public int one(int one, int place, int breath) {
        if (!isOne(one)) return UNKNOWN;
        if (!isPlace(place) || breath < 0 || breath > MOST_BREATH) return OUTSIDE;
        realm.court.enter(one, place, breath);
        return Integer.bitCount(realm.court.here);
    }

    public int leave(int one) {
        if (!realm.court.isHere(one)) return UNKNOWN;
        realm.court.depart(one);
        return Integer.bitCount(realm.court.here);
    }

    public int crown(int one) {
        if (one != -1 && !realm.court.isHere(one)) return UNKNOWN;
        int before = realm.court.king;
        realm.court.king = one == -1 ? NONE : one;
        realm.court.last = NONE;
        return before;
    }

    public int say(int sign) {
        if (sign < 33 || sign > 126) return OUTSIDE;
        return pad.write(sign) ? pad.size : FULL;
    }

    public int wipe() {
        int before = pad.size;
        pad.size = 0;
        return before;
    }

    public int fault() {
        return pad.firstFault();
    }

    // ---- 2 days

    public int judge(int what) {
        if (what < 0 || what > 1) return OUTSIDE;
        if (pad.firstFault() != NONE) return NO;
        trial.runDays(realm, pad);
        return what == 0 ? trial.stoppedAt : trial.why;
    }

    public int done() {
        if (!daysCanBe()) return NO;
        realm.court.copy(trial.court);
        pad.size = 0;
        return trial.acts;
    }

    public int behind(int one, int what) {
        if (!realm.court.isHere(one)) return UNKNOWN;
        if (what < 0 || what > 2) return OUTSIDE;
        if (!daysCanBe()) return NO;
        if (what == 0) return trial.court.placeOf(one);
        return what == 1 ? trial.court.breathOf(one) : trial.court.reignOf(one);
    }

    public int then(int what) {
        if (what < 0 || what > 4) return OUTSIDE;
        if (!daysCanBe()) return NO;
        switch (what) {
            case 0: return trial.court.king;
            case 1: return trial.court.last;
            case 2: return trial.court.minute;
            case 3: return trial.touched;
            default: return trial.firstTouch;
        }
    }

    public int far(int a, int b) {
        if (!isPlace(a) || !isPlace(b)) return UNKNOWN;
        return realm.land.distance(a, b);
    }

    // ---- 3 chases, homes

    public int rounds(int king, int other) {
        if (!isPlace(king) || !isPlace(other)) return UNKNOWN;
        return chase.fewestRounds(realm.land, king, other);
    }

    public int heads(int king, int other) {
        if (!isPlace(king) || !isPlace(other)) return UNKNOWN;
        return chase.kingsStep(realm.land, king, other);
    }

    public int flees(int king, int other) {
        if (!isPlace(king) || !isPlace(other)) return UNKNOWN;
        return chase.othersStep(realm.land, king, other);
    }

    public int shade(int r, int what) {
        if (r < 0 || r >= PLACES || what < 0 || what > 1) return OUTSIDE;
        int homes = shading.fewestHomes(realm.land, r);
        return what == 0 ? Integer.bitCount(homes) : homes;
    }

    // ---- 4 who may be king, where he sits

    public int met(int a, int b) {
        if (!isOne(a) || !isOne(b) || a == b) return UNKNOWN;
        return realm.meetings.add(a, b) ? realm.meetings.size : FULL;
    }

    public int unmeet() {
        int before = realm.meetings.size;
        realm.meetings.size = 0;
        return before;
    }

    public int maybe(int king) {
        if (!isOne(king)) return UNKNOWN;
        return realm.meetings.possibleKings(king);
    }

    public int touches(int king, int then) {
        if (!isOne(king) || !isOne(then)) return UNKNOWN;
        return realm.meetings.fewestTouches(king, then);
    }

    public long chance(int king, int then, int t, int part) {
        if (!isOne(king) || !isOne(then)) return LOST + UNKNOWN;
        if (t < 0 || t > TENTHS || part < 0 || part > 1) return LOST + OUTSIDE;
        long upper = realm.meetings.weightOf(king, then, t);
        long lower = realm.meetings.weightOfAll();
        long common = commonDivisor(lower, upper);
        return divided(part == 0 ? upper : lower, common);
    }

    public int seen(int from, int to, boolean nearer) {
        if (!isPlace(from) || !isPlace(to)) return UNKNOWN;
        return realm.sights.add(from, to, nearer) ? realm.sights.size : FULL;
    }

    public int forget() {
        int before = realm.sights.size;
        realm.sights.size = 0;
        return before;
    }

    public int lairs() {
        return realm.sights.fitting(realm.land);
    }

    public int ask(int what) {
        if (what < 0 || what > 1) return OUTSIDE;
        int hidden = realm.sights.fitting(realm.land);
        if (hidden == 0) return NONE;
        int best = 0;
        int fewest = realm.land.mostLeft(best, hidden);
        for (int place = 1; place < PLACES; place++) {
            int left = realm.land.mostLeft(place, hidden);
            if (left < fewest) {
                best = place;
                fewest = left;
            }
        }
        return what == 0 ? best : fewest;
    }

    public int year(int seed, int m, int what) {
        if (seed < 0 || seed > MOST_SEED || m < 1 || m > MOST_YEAR_ACTS) return OUTSIDE;
        if (what < 0 || what > 2) return OUTSIDE;
        trial.runYear(realm, seed, m);
        if (what == 0) return trial.touched;
        return what == 1 ? trial.court.king : trial.court.allBreath();
    }

    public int image(int n) {
        if (n < 0 || n >= IMAGES) return OUTSIDE;
        Realm kept = images[n];
        if (kept == null) {
            kept = new Realm();
            images[n] = kept;
        }
        kept.copy(realm);
        return 1;
    }

    public int restore(int n) {
        if (n < 0 || n >= IMAGES) return OUTSIDE;
        Realm kept = images[n];
        if (kept == null) return STATE;
        realm.copy(kept);
        return 1;
    }

    public int told(int what) {
        if (what >= 100) return isPlace(what - 100) ? realm.land.roadsOf(what - 100) : OUTSIDE;
        if (what >= 10) return toldOfOne(what / 10 - 1, what % 10);
        switch (what) {
            case 0: return pad.size;
            case 1: return realm.court.here;
            case 2: return realm.court.king;
            case 3: return realm.court.last;
            case 4: return realm.court.minute;
            case 5: return realm.land.homes;
            case 6: return realm.meetings.size;
            case 7: return realm.sights.size;
            default: return OUTSIDE;
        }
    }

    private int toldOfOne(int who, int part) {
        if (!realm.court.isHere(who)) return OUTSIDE;
        switch (part) {
            case 0: return realm.court.placeOf(who);
            case 1: return realm.court.breathOf(who);
            case 2: return holds(realm.court.crossed, who) ? 1 : 0;
            case 3: return realm.court.reignOf(who);
            default: return OUTSIDE;
        }
    }

    /** Tries the DAYS on the PAD; what is BEHIND them stands in the trial if it answers true. */
    private boolean daysCanBe() {
        if (pad.firstFault() != NONE) return false;
        trial.runDays(realm, pad);
        return trial.stoppedAt == NONE;
    }

    private static boolean isPlace(int place) {
        return place >= 0 && place < PLACES;
    }

    private static boolean isOne(int one) {
        return one >= 0 && one < ONES;
    }

    // a shift takes its count by 32, so a number that is no member must not come to it
    private static boolean holds(int set, int member) {
        return member >= 0 && member < 31 && (set >> member & 1) == 1;
    }

    private static int marked(int set, int member, boolean is) {
        return is ? set | 1 << member : set & ~(1 << member);
    }

    private static int leastOf(int set) {
        for (int member = 0; member < PLACES; member++) {
            if (holds(set, member)) return member;
        }
        return NONE;
    }

    private static long commonDivisor(long a, long b) {
        // Euclid's steps for numbers up to 10 to the 8th are fewer than forty
        for (int step = 0; step < 100 && b != 0; step++) {
            long rest = a % b;
            a = b;
            b = rest;
        }
        return a;
    }

    private static long divided(long number, long divisor) {
        return divisor == 0 ? number : number / divisor;
    }

    /** All that an IMAGE keeps. */
    private static final class Realm {
        final Land land = new Land();
        final Court court = new Court();
        final Meetings meetings = new Meetings();
        final Sights sights = new Sights();

        void copy(Realm other) {
            land.copy(other.land);
            court.copy(other.court);
            meetings.copy(other.meetings);
            sights.copy(other.sights);
        }
    }

    private static final class Land {
        private final int[] roads = new int[PLACES];
        int homes = 0;

        void copy(Land other) {
            System.arraycopy(other.roads, 0, roads, 0, PLACES);
            homes = other.homes;
        }

        void lay(int a, int b, boolean is) {
            if (!isPlace(a) || !isPlace(b)) return;
            roads[a] = marked(roads[a], b, is);
            roads[b] = marked(roads[b], a, is);
        }

        int countRoads() {
            int ends = 0;
            for (int place = 0; place < PLACES; place++) ends += Integer.bitCount(roads[place]);
            return ends / 2;
        }

        int roadsOf(int place) {
            return place >= 0 && place < PLACES ? roads[place] : 0;
        }

        /** Where one who is there can be behind one move: he may stay. */
        int movesFrom(int place) {
            return isPlace(place) ? roads[place] | 1 << place : 0;
        }

        /** The place alone if one is touched there, else nothing. */
        int touchedAt(int place) {
            return holds(homes, place) ? 0 : 1 << place;
        }

        /** The set and all that one ROAD leads to from it. */
        int widened(int set) {
            int wide = set;
            for (int place = 0; place < PLACES; place++) {
                if (holds(set, place)) wide |= roads[place];
            }
            return wide;
        }

        int distance(int a, int b) {
            int reached = 1 << a;
            for (int steps = 0; steps < PLACES; steps++) {
                if (holds(reached, b)) return steps;
                reached = widened(reached);
            }
            return NONE;
        }

        int within(int place, int r) {
            int reached = 1 << place;
            for (int steps = 0; steps < r; steps++) reached = widened(reached);
            return reached;
        }

        /** Of the hidden places, how many are left at the most when it is told how FAR the right one is. */
        int mostLeft(int place, int hidden) {
            int reached = 1 << place;
            int most = Integer.bitCount(reached & hidden);
            for (int steps = 1; steps < PLACES; steps++) {
                int wide = widened(reached);
                most = Math.max(most, Integer.bitCount(wide & ~reached & hidden));
                reached = wide;
            }
            return Math.max(most, Integer.bitCount(hidden & ~reached));
        }

        /** The places that both can be come to from, and that are nearer to the second: or not nearer. */
        int fitting(int from, int to, boolean nearer) {
            int nearFrom = 1 << from;
            int nearTo = 1 << to;
            int closer = 0;
            for (int steps = 0; steps < PLACES; steps++) {
                closer |= nearTo & ~nearFrom;
                nearFrom = widened(nearFrom);
                nearTo = widened(nearTo);
            }
            int both = nearFrom & nearTo;
            return nearer ? both & closer : both & ~closer;
        }
    }

    /** The ONES, who is KING, and what time it is. */
    private static final class Court {
        private final int[] places = new int[ONES];
        private final int[] breaths = new int[ONES];
        private final int[] reigns = new int[ONES];
        int here = 0;
        int crossed = 0;
        int king = NONE;
        int last = NONE;
        int minute = 0;

        void copy(Court other) {
            System.arraycopy(other.places, 0, places, 0, ONES);
            System.arraycopy(other.breaths, 0, breaths, 0, ONES);
            System.arraycopy(other.reigns, 0, reigns, 0, ONES);
            here = other.here;
            crossed = other.crossed;
            king = other.king;
            last = other.last;
            minute = other.minute;
        }

        void enter(int who, int place, int breath) {
            if (!isOne(who)) return;
            here = marked(here, who, true);
            crossed = marked(crossed, who, false);
            places[who] = place;
            breaths[who] = breath;
            reigns[who] = 0;
        }

        void depart(int who) {
            here = marked(here, who, false);
            if (king == who) king = NONE;
            if (last == who) last = NONE;
        }

        boolean isHere(int who) {
            return holds(here, who);
        }

        int placeOf(int who) {
            return who >= 0 && who < ONES ? places[who] : NONE;
        }

        int breathOf(int who) {
            return who >= 0 && who < ONES ? breaths[who] : 0;
        }

        int reignOf(int who) {
            return who >= 0 && who < ONES ? reigns[who] : 0;
        }

        int allBreath() {
            int sum = 0;
            for (int who = 0; who < ONES; who++) {
                if (isHere(who)) sum += breaths[who];
            }
            return sum;
        }

        /** The number of the least reason for which the act can not be; 0: it can. */
        int reasonAgainst(Land land, int kind, int who, int aim) {
            if (kind == MINUTE) return minute >= LAST_MINUTE ? 9 : 0;
            if (!isHere(who)) return 1;
            if (kind == RUN) return reasonAgainstRun(land, who, aim);
            return kind == TOUCH ? reasonAgainstTouch(land, who, aim) : 0;
        }

        private int reasonAgainstRun(Land land, int who, int place) {
            if (!holds(land.roadsOf(placeOf(who)), place)) return 2;
            if (breathOf(who) == 0) return 3;
            return holds(crossed, who) ? 4 : 0;
        }

        private int reasonAgainstTouch(Land land, int who, int other) {
            if (!isHere(other)) return 1;
            if (who == other) return 2;
            if (who != king) return 3;
            if (holds(crossed, who)) return 4;
            if (placeOf(who) != placeOf(other)) return 5;
            if (holds(crossed, other)) return 6;
            if (holds(land.homes, placeOf(who))) return 7;
            return other == last ? 8 : 0;
        }

        /** Does an act against which there is no reason. */
        void act(int kind, int who, int aim) {
            if (kind == MINUTE) {
                minute++;
                if (isOne(king)) reigns[king]++;
                return;
            }
            if (!isOne(who)) return;
            if (kind == RUN) {
                places[who] = aim;
                breaths[who]--;
            } else if (kind == TOUCH) {
                king = aim;
                last = who;
            } else if (kind == REST) {
                breaths[who] = Math.min(breaths[who] + 2, MOST_BREATH);
            } else {
                crossed ^= 1 << who;
            }
        }
    }

    private static final class Pad {
        private static final int AHEAD_OF_ACT = 0, BEHIND_ONE = 1, BEHIND_TOUCH = 2, WRONG = 3;

        private final int[] signs = new int[MOST_SIGNS];
        int size = 0;

        boolean write(int sign) {
            if (size < 0 || size >= MOST_SIGNS) return false;
            signs[size] = sign;
            size++;
            return true;
        }

        int signAt(int at) {
            return at >= 0 && at < size && at < MOST_SIGNS ? signs[at] : 0;
        }

        int firstFault() {
            int state = AHEAD_OF_ACT;
            for (int at = 0; at < size; at++) {
                state = stateBehind(state, signAt(at));
                if (state == WRONG) return at;
            }
            return state == AHEAD_OF_ACT ? NONE : size;
        }

        private static int stateBehind(int state, int sign) {
            boolean names = sign >= 'A' && sign < 'A' + ONES;
            if (state == BEHIND_TOUCH) return names ? AHEAD_OF_ACT : WRONG;
            if (state == AHEAD_OF_ACT) {
                if (sign == '.') return AHEAD_OF_ACT;
                return names ? BEHIND_ONE : WRONG;
            }
            if (sign == '>') return BEHIND_TOUCH;
            if (sign == '+' || sign == '*') return AHEAD_OF_ACT;
            return sign >= 'a' && sign < 'a' + PLACES ? AHEAD_OF_ACT : WRONG;
        }

        // the next four read the act that begins at a place of a text without a FAULT

        int kindAt(int at) {
            if (signAt(at) == '.') return MINUTE;
            switch (signAt(at + 1)) {
                case '>': return TOUCH;
                case '+': return REST;
                case '*': return FINGERS;
                default: return RUN;
            }
        }

        int whoAt(int at) {
            return signAt(at) - 'A';
        }

        int aimAt(int at) {
            return kindAt(at) == TOUCH ? signAt(at + 2) - 'A' : signAt(at + 1) - 'a';
        }

        int lengthAt(int at) {
            int kind = kindAt(at);
            if (kind == MINUTE) return 1;
            return kind == TOUCH ? 3 : 2;
        }
    }

    /** Acts tried on a court of its own, so that nothing is DONE in fact. */
    private static final class Trial {
        final Court court = new Court();
        int acts;
        int stoppedAt;
        int why;
        int touched;
        int firstTouch;

        private void begin(Court start) {
            court.copy(start);
            acts = 0;
            stoppedAt = NONE;
            why = NONE;
            touched = 0;
            firstTouch = NONE;
        }

        /** Does the act if it can be, and answers the reason against it, or 0. */
        private int attempt(Land land, int kind, int who, int aim) {
            int reason = court.reasonAgainst(land, kind, who, aim);
            if (reason != 0) return reason;
            court.act(kind, who, aim);
            if (kind == TOUCH) {
                if (touched == 0) firstTouch = acts;
                touched++;
            }
            acts++;
            return 0;
        }

        void runDays(Realm realm, Pad pad) {
            begin(realm.court);
            int at = 0;
            for (int turn = 0; turn < MOST_SIGNS && at < pad.size; turn++) {
                int reason = attempt(realm.land, pad.kindAt(at), pad.whoAt(at), pad.aimAt(at));
                if (reason != 0) {
                    stoppedAt = acts;
                    why = reason;
                    return;
                }
                at += pad.lengthAt(at);
            }
        }

        void runYear(Realm realm, int seed, int m) {
            begin(realm.court);
            int x = seed;
            for (int draw = 0; draw < m; draw++) {
                x = (75 * x + 74) % 65537;
                int kind = kindDrawn(x / 7 % 8);
                attempt(realm.land, kind, x % ONES, x / 56 % (kind == TOUCH ? ONES : PLACES));
            }
        }

        private static int kindDrawn(int number) {
            if (number <= 2) return RUN;
            if (number <= 4) return TOUCH;
            if (number == 5) return REST;
            return number == 6 ? FINGERS : MINUTE;
        }
    }

    /**
     * The CHASE, worked out by rising numbers of ROUNDS n. Each row has a set of places of the other one for each
     * place of the KING.
     */
    private static final class Chase {
        private static final int MOST_ROUNDS = PLACES * PLACES;

        /** Where, the KING being about to go, he can touch within n ROUNDS. */
        private final int[] caught = new int[PLACES];
        /** Where, the KING having gone, he has touched or can touch within n - 1 ROUNDS more. */
        private final int[] trapped = new int[PLACES];

        private void begin(Land land) {
            for (int king = 0; king < PLACES; king++) caught[king] = land.touchedAt(king);
        }

        /** Takes n one further; false: nobody more is caught, now or ever. */
        private boolean advance(Land land) {
            for (int king = 0; king < PLACES; king++) trapped[king] = trappedBy(land, king);
            boolean more = false;
            for (int king = 0; king < PLACES; king++) {
                int next = caught[king] | trappedByAny(land.movesFrom(king));
                if (next != caught[king]) more = true;
                caught[king] = next;
            }
            return more;
        }

        private int trappedBy(Land land, int king) {
            int set = land.touchedAt(king);
            int within = caughtBy(king);
            for (int other = 0; other < PLACES; other++) {
                if ((land.movesFrom(other) & ~within) == 0) set |= 1 << other;
            }
            return set;
        }

        private int trappedByAny(int kings) {
            int set = 0;
            for (int king = 0; king < PLACES; king++) {
                if (holds(kings, king)) set |= trapped[king];
            }
            return set;
        }

        private int caughtBy(int king) {
            return isPlace(king) ? caught[king] : 0;
        }

        int fewestRounds(Land land, int king, int other) {
            begin(land);
            boolean more = true;
            for (int n = 0; n <= MOST_ROUNDS && more; n++) {
                if (holds(caughtBy(king), other)) return n;
                more = advance(land);
            }
            return NONE;
        }

        int kingsStep(Land land, int king, int other) {
            int n = fewestRounds(land, king, other);
            if (n == NONE || n == 0) return NONE;
            // the row trapped is still the one that the answer n came from
            int moves = land.movesFrom(king);
            for (int step = 0; step < PLACES; step++) {
                if (holds(moves, step) && holds(trapped[step], other)) return step;
            }
            return NONE;
        }

        int othersStep(Land land, int king, int other) {
            begin(land);
            if (holds(caughtBy(king), other)) return NONE;
            int best = land.movesFrom(other);
            boolean more = true;
            for (int n = 0; n <= MOST_ROUNDS && more; n++) {
                int free = best & ~caughtBy(king);
                if (free == 0) return leastOf(best);
                best = free;
                more = advance(land);
            }
            return leastOf(best);
        }
    }

    private static final class Shade {
        private final int[] near = new int[PLACES];

        int fewestHomes(Land land, int r) {
            for (int place = 0; place < PLACES; place++) near[place] = land.within(place, r);
            int best = ALL_PLACES;
            int fewest = PLACES;
            // by rising bits, so the first of as few is the least
            for (int homes = 1; homes < ALL_PLACES; homes++) {
                if (Integer.bitCount(homes) < fewest && isNearAll(homes)) {
                    best = homes;
                    fewest = Integer.bitCount(homes);
                }
            }
            return best;
        }

        private boolean isNearAll(int homes) {
            for (int place = 0; place < PLACES; place++) {
                if ((near[place] & homes) == 0) return false;
            }
            return true;
        }
    }

    /**
     * MEETINGS, played with coins: a set of those at which he touches if he can. A coin that falls where nobody can
     * touch changes nothing, so that sums over all coins are exact.
     */
    private static final class Meetings {
        private final int[] firsts = new int[MOST_MEETINGS];
        private final int[] seconds = new int[MOST_MEETINGS];
        int size = 0;
        private int king = NONE;
        private int touched = 0;

        void copy(Meetings other) {
            System.arraycopy(other.firsts, 0, firsts, 0, MOST_MEETINGS);
            System.arraycopy(other.seconds, 0, seconds, 0, MOST_MEETINGS);
            size = other.size;
        }

        boolean add(int a, int b) {
            if (size < 0 || size >= MOST_MEETINGS) return false;
            firsts[size] = a;
            seconds[size] = b;
            size++;
            return true;
        }

        private void play(int start, int coins) {
            king = start;
            touched = 0;
            int last = NONE;
            for (int i = 0; i < size && i < MOST_MEETINGS; i++) {
                int other = NONE;
                if (firsts[i] == king) other = seconds[i];
                if (seconds[i] == king) other = firsts[i];
                if (other == NONE || other == last || !holds(coins, i)) continue;
                last = king;
                king = other;
                touched++;
            }
        }

        int possibleKings(int start) {
            int kings = 0;
            for (int coins = 0; coins < 1 << size; coins++) {
                play(start, coins);
                kings |= 1 << king;
            }
            return kings;
        }

        int fewestTouches(int start, int end) {
            int fewest = NONE;
            for (int coins = 0; coins < 1 << size; coins++) {
                play(start, coins);
                if (king == end && (fewest == NONE || touched < fewest)) fewest = touched;
            }
            return fewest;
        }

        long weightOf(int start, int end, int t) {
            long sum = 0;
            for (int coins = 0; coins < 1 << size; coins++) {
                play(start, coins);
                if (king == end) sum += coinWeight(coins, t);
            }
            return sum;
        }

        private long coinWeight(int coins, int t) {
            long weight = 1;
            for (int i = 0; i < size; i++) weight *= holds(coins, i) ? t : TENTHS - t;
            return weight;
        }

        long weightOfAll() {
            long weight = 1;
            for (int i = 0; i < size; i++) weight *= TENTHS;
            return weight;
        }
    }

    private static final class Sights {
        private final int[] froms = new int[MOST_SIGHTS];
        private final int[] tos = new int[MOST_SIGHTS];
        /** As bits: the SIGHTS of one who came nearer. */
        private int nearers = 0;
        int size = 0;

        void copy(Sights other) {
            System.arraycopy(other.froms, 0, froms, 0, MOST_SIGHTS);
            System.arraycopy(other.tos, 0, tos, 0, MOST_SIGHTS);
            nearers = other.nearers;
            size = other.size;
        }

        boolean add(int from, int to, boolean nearer) {
            if (size < 0 || size >= MOST_SIGHTS) return false;
            froms[size] = from;
            tos[size] = to;
            nearers = marked(nearers, size, nearer);
            size++;
            return true;
        }

        int fitting(Land land) {
            int places = ALL_PLACES;
            for (int i = 0; i < size && i < MOST_SIGHTS; i++) {
                places &= land.fitting(froms[i], tos[i], holds(nearers, i));
            }
            return places;
        }
    }
}
