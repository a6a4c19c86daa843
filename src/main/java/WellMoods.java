/** A village well that gives by its mood, and by who draws; ../shared/DOC.md says what each call answers. */
public final class WellMoods {
    public static final int BAD = -1, NOT = -2, FULL = -3, NONE = -4, NULL = -11, CAST = -12, INDEX = -13, SIZE = -14;

    // What is no refusal: the answers of the checks below, never of a call.
    private static final int FINE = 0;
    // Where an answer may be below 0, a refusal must stand apart from it.
    private static final int BAD_APART = BAD - 100000;

    private static final int PLAIN = 0, SAD = 1, VAIN = 2, MASKED = 3;
    private static final int NOBODY = 9;
    private static final int MAX_FOLK = 6, MAX_FEELS = 3, MAX_RESTS = 9;
    private static final int MAX_MOOD = 9, MAX_PAILS = 9, MAX_LEVEL = 999, MAX_RAIN = 9;
    private static final int LAST_HOUR = 9999, MAX_PASS = 60, MAX_PLAN = 24;
    private static final int MAX_AHEAD = 5, PEACE_HOURS = 4, MAX_WANTED = 99;
    private static final int MAX_TAPE = 60, MAX_TYPED = 8, FIRST_SIGN = 32, LAST_SIGN = 126, FIRST_FAULT = -20;
    private static final int SHEETS = 4, BYTES = 0, SHORTS = 1, LONGS = 2, MAX_ITEMS = 24;
    private static final int MAX_FIT = 8, MOODS = 2 * MAX_MOOD + 1;

    private final Well well = new Well();
    private final Well kept = new Well();
    private boolean isKept = false;
    private final Tape tape = new Tape();
    private final Folk newcomers = new Folk();
    private final int[] newPlan = new int[MAX_PLAN];
    private final Search search = new Search();
    private final Sheet[] sheets = new Sheet[SHEETS];

    public WellMoods() {
        for (int i = 0; i < SHEETS; i++) {
            sheets[i] = new Sheet();
        }
    }

    // ---- 1 folk, the well

    public int folk(int kind, int feels, int rests) {
        if (!within(kind, PLAIN, MASKED) || !within(feels, -MAX_FEELS, MAX_FEELS) || !within(rests, 1, MAX_RESTS)) {
            return BAD;
        }
        if (well.folk.count >= MAX_FOLK) {
            return FULL;
        }
        return well.folk.add(kind, feels, rests);
    }

    public int told(int one, int what) {
        if (!well.folk.has(one)) {
            return BAD_APART;
        }
        switch (what) {
            case 0: return well.folk.kinds[one];
            case 1: return well.folk.feelings[one];
            case 2: return well.folk.rests[one];
            case 3: return well.waits[one];
            case 4: return well.folk.foes[one];
            default: return BAD_APART;
        }
    }

    public int quarrel(int a, int b, boolean is) {
        if (!well.folk.has(a) || !well.folk.has(b) || a == b) {
            return BAD;
        }
        int was = well.folk.areFoes(a, b) ? 1 : 0;
        well.folk.makeFoes(a, b, is);
        return was;
    }

    public int set(int what, int v) {
        int was = BAD_APART;
        if (what == 0 && isMood(v)) {
            was = well.mood;
            well.mood = v;
        } else if (what == 1 && within(v, 0, MAX_LEVEL)) {
            was = well.level;
            well.level = v;
        } else if (what == 2 && within(v, 0, MAX_RAIN)) {
            was = well.rain;
            well.rain = v;
        }
        return was;
    }

    public int is(int what) {
        switch (what) {
            case 0: return well.mood;
            case 1: return well.level;
            case 2: return well.rain;
            case 3: return well.sweet;
            case 4: return well.salt;
            case 5: return well.hour;
            case 6: return well.folk.count;
            case 7: return well.planHours;
            case 8: return well.last;
            default: return BAD_APART;
        }
    }

    public int type(long w, int n) {
        if (!within(n, 1, MAX_TYPED) || !areSigns(w, n)) {
            return BAD;
        }
        if (tape.length + n > MAX_TAPE) {
            return FULL;
        }
        for (int i = n - 1; i >= 0; i--) {
            tape.append(byteOf(w, i));
        }
        return tape.length;
    }

    public int village() {
        int answer = tape.readFolk(newcomers);
        tape.length = 0;
        if (answer > 0) {
            well.settle(newcomers);
        }
        return answer;
    }

    public int plan() {
        int answer = tape.readPlan(newPlan, well.folk);
        tape.length = 0;
        if (answer > 0) {
            well.adopt(newPlan, answer);
        }
        return answer;
    }

    // ---- 2 hours

    public int may() {
        int set = 0;
        for (int one = 0; one < well.folk.count; one++) {
            if (well.mayDraw(one)) {
                set |= 1 << one;
            }
        }
        return set;
    }

    public int draw(int one) {
        if (one != NOBODY && !well.folk.has(one)) {
            return BAD;
        }
        if (one != NOBODY && !well.mayDraw(one)) {
            return NOT;
        }
        if (!well.hasHours(1)) {
            return FULL;
        }
        return well.passHour(one);
    }

    public int pass(int n) {
        if (!within(n, 1, MAX_PASS)) {
            return BAD;
        }
        if (!well.hasHours(n)) {
            return FULL;
        }
        for (int i = 0; i < n; i++) {
            well.passHour(NOBODY);
        }
        return well.hour;
    }

    public int run() {
        if (!well.hasHours(well.planHours)) {
            return FULL;
        }
        return well.followPlan();
    }

    public int most(int n) {
        return within(n, 1, MAX_AHEAD) ? mostFrom(well.mood, n) : BAD;
    }

    public int row(int n, int i) {
        if (!within(n, 1, MAX_AHEAD) || !within(i, 0, n - 1)) {
            return BAD;
        }
        mostFrom(well.mood, n);
        return search.row[i];
    }

    public int fewest(int pails) {
        if (!within(pails, 0, MAX_WANTED)) {
            return BAD;
        }
        search.observe(well);
        for (int n = 0; n <= MAX_AHEAD; n++) {
            if (search.mostIn(n, well.mood) >= pails) {
                return n;
            }
        }
        return NONE;
    }

    public int peace() {
        search.observe(well);
        int best = search.mostIn(PEACE_HOURS, well.mood);
        int pair = NONE;
        for (int a = 0; a < well.folk.count; a++) {
            for (int b = a + 1; b < well.folk.count; b++) {
                int most = well.folk.areFoes(a, b) ? mostInPeace(a, b) : 0;
                if (most > best) {
                    best = most;
                    pair = 10 * a + b;
                }
            }
        }
        return pair;
    }

    // ---- 3 what was

    public int gives(int one, int mood) {
        if (!well.folk.has(one) || !isMood(mood)) {
            return BAD;
        }
        return well.givesAt(one, mood);
    }

    public int stranger(int mood, int one, int pails) {
        if (!isMood(mood) || !well.folk.has(one) || !isPails(pails)) {
            return BAD;
        }
        int set = 0;
        for (int felt = -MAX_FEELS; felt <= MAX_FEELS; felt++) {
            int then = waned(asMood(mood + felt));
            if (well.folk.pailsAt(one, then) == pails) {
                set |= 1 << (felt + MAX_FEELS);
            }
        }
        return set;
    }

    public int liar(int a, int moodA, int pailsA, int b, int moodB, int pailsB) {
        if (!isTale(a, moodA, pailsA) || !isTale(b, moodB, pailsB) || a == b) {
            return BAD;
        }
        int first = well.folk.pailsAt(a, moodA) == pailsA ? 0 : 1;
        int second = well.folk.pailsAt(b, moodB) == pailsB ? 0 : 2;
        return first | second;
    }

    public int other(int n) {
        return within(n, 1, MAX_AHEAD) ? mostFrom(-well.mood, n) : BAD;
    }

    public int drawn(int n) {
        if (!within(n, 1, MAX_PASS)) {
            return BAD;
        }
        if (!well.hasHours(n)) {
            return FULL;
        }
        int pails = 0;
        for (int i = 0; i < n; i++) {
            pails += well.passHour(well.lot());
        }
        return pails;
    }

    public int seed(int v) {
        if (v < 0) {
            return BAD;
        }
        int was = well.lots;
        well.lots = v;
        return was;
    }

    public int image() {
        kept.become(well);
        isKept = true;
        return 1;
    }

    public int restore() {
        if (!isKept) {
            return NONE;
        }
        well.become(kept);
        return 1;
    }

    // ---- 4 sheets

    public int fit(int sheet, int lane, int from, int n) {
        if (!within(n, 1, MAX_FIT)) {
            return BAD;
        }
        int refusal = refusal(sheet, lane, from, 2 * n);
        if (refusal != FINE) {
            return refusal;
        }
        if (!areDrawings(sheets[sheet], from, n)) {
            return NOT;
        }
        int set = 0;
        for (int mood = -MAX_MOOD; mood <= MAX_MOOD; mood++) {
            if (fitsFrom(mood, sheets[sheet], from, n)) {
                set |= 1 << (mood + MAX_MOOD);
            }
        }
        return set;
    }

    public int film(int one, int sheet, int lane, int from) {
        if (!well.folk.has(one)) {
            return BAD;
        }
        int refusal = refusal(sheet, lane, from, MOODS);
        if (refusal != FINE) {
            return refusal;
        }
        for (int i = 0; i < MOODS; i++) {
            sheets[sheet].put(from + i, well.givesAt(one, i - MAX_MOOD));
        }
        return MOODS;
    }

    public int sheet(int sheet, int lane, int n) {
        if (!isSheet(sheet) || !isLane(lane) || n > MAX_ITEMS) {
            return BAD;
        }
        if (n < 0) {
            return SIZE;
        }
        sheets[sheet].begin(lane, n);
        return n;
    }

    public int drop(int sheet) {
        if (!isSheet(sheet)) {
            return BAD;
        }
        if (!sheets[sheet].isThere) {
            return NULL;
        }
        sheets[sheet].isThere = false;
        return sheets[sheet].length;
    }

    public int item(int sheet, int lane, int i, long v) {
        int refusal = refusal(sheet, lane, i, 1);
        if (refusal != FINE) {
            return refusal;
        }
        sheets[sheet].put(i, v);
        return 1;
    }

    public int copy(int from, int i, int to, int j, int n) {
        if (!isSheet(from) || !isSheet(to)) {
            return BAD;
        }
        if (!sheets[from].isThere || !sheets[to].isThere) {
            return NULL;
        }
        if (sheets[from].lane != sheets[to].lane) {
            return CAST;
        }
        if (!sheets[from].hasSpan(i, n) || !sheets[to].hasSpan(j, n)) {
            return INDEX;
        }
        System.arraycopy(sheets[from].items, i, sheets[to].items, j, n);
        return n;
    }

    // ---- what the calls share

    private static boolean within(int v, int least, int greatest) {
        return v >= least && v <= greatest;
    }

    private static boolean isMood(int v) {
        return within(v, -MAX_MOOD, MAX_MOOD);
    }

    private static boolean isPails(long v) {
        return v >= 0 && v <= MAX_PAILS;
    }

    private static boolean isSheet(int v) {
        return within(v, 0, SHEETS - 1);
    }

    private static boolean isLane(int v) {
        return within(v, BYTES, LONGS);
    }

    private static int asMood(int v) {
        return Math.max(-MAX_MOOD, Math.min(MAX_MOOD, v));
    }

    private static int waned(int mood) {
        return mood - Integer.compare(mood, 0);
    }

    private static int rained(int level, int rain) {
        return Math.min(MAX_LEVEL, level + rain);
    }

    private static int byteOf(long w, int i) {
        return (int) (w >> (8 * i)) & 255;
    }

    private static boolean areSigns(long w, int n) {
        for (int i = 0; i < n; i++) {
            if (!within(byteOf(w, i), FIRST_SIGN, LAST_SIGN)) {
                return false;
            }
        }
        return true;
    }

    private boolean isTale(int one, int mood, int pails) {
        return well.folk.has(one) && isMood(mood) && isPails(pails);
    }

    private int mostFrom(int mood, int hours) {
        search.observe(well);
        return search.mostIn(hours, mood);
    }

    private int mostInPeace(int a, int b) {
        search.folk.makeFoes(a, b, false);
        int most = search.mostIn(PEACE_HOURS, well.mood);
        search.folk.makeFoes(a, b, true);
        return most;
    }

    private int refusal(int sheet, int lane, int from, int n) {
        if (!isSheet(sheet) || !isLane(lane)) {
            return BAD;
        }
        if (!sheets[sheet].isThere) {
            return NULL;
        }
        if (sheets[sheet].lane != lane) {
            return CAST;
        }
        return sheets[sheet].hasSpan(from, n) ? FINE : INDEX;
    }

    private boolean areDrawings(Sheet sheet, int from, int n) {
        for (int i = 0; i < n; i++) {
            // Not cast to int: a long that is nobody must not become somebody.
            long one = sheet.items[from + 2 * i];
            if (one < 0 || one >= well.folk.count || !isPails(sheet.items[from + 2 * i + 1])) {
                return false;
            }
        }
        return true;
    }

    private boolean fitsFrom(int mood, Sheet sheet, int from, int n) {
        int now = mood;
        for (int i = 0; i < n; i++) {
            int one = (int) sheet.items[from + 2 * i];
            if (well.folk.pailsAt(one, now) != sheet.items[from + 2 * i + 1]) {
                return false;
            }
            now = waned(well.folk.moodBehind(one, now));
        }
        return true;
    }

    /** Who there is, and how each draws. */
    private static final class Folk {
        private final int[] kinds = new int[MAX_FOLK];
        private final int[] feelings = new int[MAX_FOLK];
        private final int[] rests = new int[MAX_FOLK];
        private final int[] foes = new int[MAX_FOLK];
        private int count = 0;

        private boolean has(int one) {
            return one >= 0 && one < count;
        }

        private int add(int kind, int feels, int rest) {
            int one = count;
            if (one >= MAX_FOLK) {
                return FULL;
            }
            kinds[one] = kind;
            feelings[one] = feels;
            rests[one] = rest;
            foes[one] = 0;
            count = one + 1;
            return one;
        }

        private void become(Folk those) {
            for (int i = 0; i < MAX_FOLK; i++) {
                kinds[i] = those.kinds[i];
                feelings[i] = those.feelings[i];
                rests[i] = those.rests[i];
                foes[i] = those.foes[i];
            }
            count = those.count;
        }

        private boolean areFoes(int a, int b) {
            return has(a) && has(b) && (foes[a] >> b & 1) == 1;
        }

        private void makeFoes(int a, int b, boolean is) {
            if (!has(a) || !has(b)) {
                return;
            }
            foes[a] = is ? foes[a] | 1 << b : foes[a] & ~(1 << b);
            foes[b] = is ? foes[b] | 1 << a : foes[b] & ~(1 << a);
        }

        /** PAILS as if the LEVEL were enough and nobody had drawn ahead. */
        private int pailsAt(int one, int mood) {
            int base = 4;
            if (kinds[one] == SAD) {
                base = 5;
            } else if (kinds[one] == MASKED) {
                base = 2;
            }
            return Math.max(0, Math.min(MAX_PAILS, base + mood));
        }

        private int pailsBehind(int last, int one, int mood, int level) {
            return areFoes(last, one) ? 0 : Math.min(level, pailsAt(one, mood));
        }

        private boolean isSweet(int one, int mood) {
            return kinds[one] == SAD || kinds[one] == PLAIN && mood >= 0;
        }

        private int moodBehind(int one, int mood) {
            return asMood(kinds[one] == MASKED ? mood - feelings[one] : mood + feelings[one]);
        }
    }

    /** All that an IMAGE keeps. */
    private static final class Well {
        private final Folk folk = new Folk();
        private final int[] waits = new int[MAX_FOLK];
        private final int[] planned = new int[MAX_PLAN];
        private int planHours = 0;
        private int mood = 0;
        private int level = 200;
        private int rain = 1;
        private int sweet = 0;
        private int salt = 0;
        private int hour = 0;
        private int last = NOBODY;
        private int lots = 1;

        private void become(Well that) {
            folk.become(that.folk);
            System.arraycopy(that.waits, 0, waits, 0, MAX_FOLK);
            System.arraycopy(that.planned, 0, planned, 0, MAX_PLAN);
            planHours = that.planHours;
            mood = that.mood;
            level = that.level;
            rain = that.rain;
            sweet = that.sweet;
            salt = that.salt;
            hour = that.hour;
            last = that.last;
            lots = that.lots;
        }

        private void settle(Folk those) {
            folk.become(those);
            for (int i = 0; i < MAX_FOLK; i++) {
                waits[i] = 0;
            }
            last = NOBODY;
            planHours = 0;
        }

        private void adopt(int[] those, int hours) {
            planHours = Math.min(hours, MAX_PLAN);
            System.arraycopy(those, 0, planned, 0, planHours);
        }

        private boolean mayDraw(int one) {
            return folk.has(one) && waits[one] == 0;
        }

        private boolean hasHours(int n) {
            return hour + n <= LAST_HOUR;
        }

        private int givesAt(int one, int at) {
            int pails = Math.min(level, folk.pailsAt(one, at));
            return folk.isSweet(one, at) ? pails : pails + 10;
        }

        /** One HOUR, in which one draws or nobody: PAILS. */
        private int passHour(int one) {
            int pails = 0;
            if (mayDraw(one)) {
                pails = drawBy(one);
                last = one;
            } else {
                last = NOBODY;
            }
            endHour();
            return pails;
        }

        private int drawBy(int one) {
            int pails = folk.pailsBehind(last, one, mood, level);
            if (folk.isSweet(one, mood)) {
                sweet += pails;
            } else {
                salt += pails;
            }
            level -= pails;
            mood = folk.moodBehind(one, mood);
            waits[one] = folk.rests[one];
            return pails;
        }

        private void endHour() {
            mood = waned(mood);
            level = rained(level, rain);
            hour++;
            for (int i = 0; i < folk.count; i++) {
                waits[i] = Math.max(0, waits[i] - 1);
            }
        }

        private int followPlan() {
            for (int i = 0; i < planHours; i++) {
                if (planned[i] != NOBODY && !mayDraw(planned[i])) {
                    return i;
                }
                passHour(planned[i]);
            }
            return planHours;
        }

        /** Who draws by THE DRAW, which moves on. */
        private int lot() {
            lots = (int) (lots * 1103515245L + 12345L & 0x7fffffffL);
            int one = lots / 65536 % (folk.count + 1);
            return mayDraw(one) ? one : NOBODY;
        }
    }

    /** MOST and THE ROW, found on what it has observed: a well stays as it is. */
    private static final class Search {
        private final Folk folk = new Folk();
        // The hour of the search from which on each may draw: it needs no change as hours pass.
        private final int[] freeFrom = new int[MAX_FOLK];
        private final int[] path = new int[MAX_AHEAD];
        private final int[] row = new int[MAX_AHEAD];
        private int level = 0;
        private int rain = 0;
        private int last = NOBODY;
        private int hours = 0;
        private int best = 0;

        private void observe(Well well) {
            folk.become(well.folk);
            System.arraycopy(well.waits, 0, freeFrom, 0, MAX_FOLK);
            level = well.level;
            rain = well.rain;
            last = well.last;
        }

        private int mostIn(int n, int mood) {
            hours = Math.min(n, MAX_AHEAD);
            best = -1;
            tryHour(0, mood, level, last, 0);
            return best;
        }

        private void tryHour(int at, int mood, int water, int ahead, int sweet) {
            if (at >= hours) {
                keep(sweet);
                return;
            }
            // Only more than the best is of use: of like rows the first one counts.
            if (sweet + (hours - at) * MAX_PAILS <= best) {
                return;
            }
            for (int one = 0; one < folk.count; one++) {
                if (freeFrom[one] <= at) {
                    tryDrawing(one, at, mood, water, ahead, sweet);
                }
            }
            path[at] = NOBODY;
            tryHour(at + 1, waned(mood), rained(water, rain), NOBODY, sweet);
        }

        private void tryDrawing(int one, int at, int mood, int water, int ahead, int sweet) {
            int pails = folk.pailsBehind(ahead, one, mood, water);
            int more = folk.isSweet(one, mood) ? pails : 0;
            int freeWas = freeFrom[one];
            path[at] = one;
            freeFrom[one] = at + folk.rests[one];
            tryHour(at + 1, waned(folk.moodBehind(one, mood)), rained(water - pails, rain), one, sweet + more);
            freeFrom[one] = freeWas;
        }

        private void keep(int sweet) {
            if (sweet > best) {
                best = sweet;
                System.arraycopy(path, 0, row, 0, hours);
            }
        }
    }

    /** THE TAPE, and how its text is read. */
    private static final class Tape {
        // No byte that can be typed.
        private static final int END = 0;

        private final byte[] bytes = new byte[MAX_TAPE];
        private int length = 0;
        private int place = 0;

        private void append(int sign) {
            if (length < MAX_TAPE) {
                bytes[length] = (byte) sign;
                length++;
            }
        }

        private int fault() {
            return FIRST_FAULT - place;
        }

        /** The next byte that is no blank; the place is then there. */
        private int next() {
            while (place < length && bytes[place] == ' ') {
                place++;
            }
            return place < length ? bytes[place] : END;
        }

        private int readFolk(Folk those) {
            place = 0;
            those.count = 0;
            for (int n = 1; n <= MAX_FOLK; n++) {
                if (!readOne(those)) {
                    return fault();
                }
                int sign = next();
                if (sign == END) {
                    return n;
                }
                if (sign != ',' || n == MAX_FOLK) {
                    return fault();
                }
                place++;
            }
            return fault();
        }

        private boolean readOne(Folk those) {
            int kind = kindBy(next());
            if (kind < 0) {
                return false;
            }
            place++;
            int feels = 0;
            int sign = next();
            if (sign == '+' || sign == '-') {
                place++;
                int size = readDigit(0, MAX_FEELS);
                if (size < 0) {
                    return false;
                }
                feels = sign == '-' ? -size : size;
            }
            int rests = 1;
            if (next() == 'r') {
                place++;
                rests = readDigit(1, MAX_RESTS);
                if (rests < 0) {
                    return false;
                }
            }
            return those.add(kind, feels, rests) >= 0;
        }

        private static int kindBy(int sign) {
            switch (sign) {
                case 'p': return PLAIN;
                case 's': return SAD;
                case 'v': return VAIN;
                case 'm': return MASKED;
                default: return -1;
            }
        }

        private int readDigit(int least, int greatest) {
            int digit = next() - '0';
            if (!within(digit, least, greatest)) {
                return -1;
            }
            place++;
            return digit;
        }

        private int readPlan(int[] those, Folk folk) {
            place = 0;
            for (int n = 0; n < MAX_PLAN; n++) {
                int sign = next();
                if (sign == END && n > 0) {
                    return n;
                }
                int one = sign == '.' ? NOBODY : sign - '0';
                if (sign != '.' && !folk.has(one)) {
                    return fault();
                }
                those[n] = one;
                place++;
            }
            return next() == END ? MAX_PLAN : fault();
        }
    }

    /** A SHEET: nothing, or a row of a LANE. */
    private static final class Sheet {
        private final long[] items = new long[MAX_ITEMS];
        private boolean isThere = false;
        private int lane = BYTES;
        private int length = 0;

        private void begin(int newLane, int n) {
            isThere = true;
            lane = newLane;
            length = n;
            for (int i = 0; i < MAX_ITEMS; i++) {
                items[i] = 0L;
            }
        }

        private boolean hasSpan(int from, int n) {
            // Not from + n, which may wrap around.
            return n >= 0 && from >= 0 && from <= length - n;
        }

        private void put(int i, long v) {
            if (lane == BYTES) {
                items[i] = (byte) v;
            } else if (lane == SHORTS) {
                items[i] = (short) v;
            } else {
                items[i] = v;
            }
        }
    }
}
