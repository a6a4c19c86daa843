import java.util.ArrayList;
import java.util.List;

/** The document once more, in another form than the program's: rows of all choices, states copied whole. */
final class Model {
    /** The village, its well and its hours. */
    static final class State {
        List<int[]> folk = new ArrayList<>(); // of each: KIND, FEELS, RESTS, the HOUR from which he MAY draw
        boolean[][] foes = new boolean[6][6];
        int mood = 0, level = 200, rain = 1, sweet = 0, salt = 0, hour = 0, last = 9;
        long lots = 1;
        String plan = "";

        State copy() {
            State s = new State();
            for (int[] one : folk) {
                s.folk.add(one.clone());
            }
            for (int i = 0; i < 6; i++) {
                s.foes[i] = foes[i].clone();
            }
            s.mood = mood;
            s.level = level;
            s.rain = rain;
            s.sweet = sweet;
            s.salt = salt;
            s.hour = hour;
            s.last = last;
            s.lots = lots;
            s.plan = plan;
            return s;
        }

        boolean there(int one) {
            return one >= 0 && one < folk.size();
        }

        boolean may(int one) {
            return there(one) && folk.get(one)[3] <= hour;
        }

        int hour(int one) {
            int pails = 0;
            if (one != 9) {
                int[] who = folk.get(one);
                pails = Math.min(level, raw(who[0], mood));
                if (last != 9 && foes[last][one]) {
                    pails = 0;
                }
                if (sweet(who[0], mood)) {
                    sweet += pails;
                } else {
                    salt += pails;
                }
                level -= pails;
                mood = behind(who, mood);
                who[3] = hour + who[2];
            }
            mood = nearer(mood);
            level = Math.min(999, level + rain);
            hour++;
            last = one;
            return pails;
        }
    }

    static int raw(int kind, int mood) {
        int pails = (kind == 1 ? 5 : kind == 3 ? 2 : 4) + mood;
        return pails < 0 ? 0 : pails > 9 ? 9 : pails;
    }

    static boolean sweet(int kind, int mood) {
        return kind == 1 || kind == 0 && mood >= 0;
    }

    static int behind(int[] who, int mood) {
        int m = who[0] == 3 ? mood - who[1] : mood + who[1];
        return m > 9 ? 9 : m < -9 ? -9 : m;
    }

    static int nearer(int mood) {
        return mood > 0 ? mood - 1 : mood < 0 ? mood + 1 : 0;
    }

    State now = new State();
    State image = null;
    String tape = "";
    long[][] sheets = new long[4][];
    int[] lanes = new int[4];

    static boolean in(long v, long a, long b) {
        return a <= v && v <= b;
    }

    int folk(int kind, int feels, int rests) {
        if (!in(kind, 0, 3) || !in(feels, -3, 3) || !in(rests, 1, 9)) return -1;
        if (now.folk.size() == 6) return -3;
        now.folk.add(new int[] {kind, feels, rests, now.hour});
        return now.folk.size() - 1;
    }

    int told(int one, int what) {
        if (!now.there(one) || !in(what, 0, 4)) return -100001;
        if (what < 3) return now.folk.get(one)[what];
        if (what == 3) return Math.max(0, now.folk.get(one)[3] - now.hour);
        int set = 0;
        for (int i = 0; i < 6; i++) set += now.foes[one][i] ? 1 << i : 0;
        return set;
    }

    int quarrel(int a, int b, boolean is) {
        if (!now.there(a) || !now.there(b) || a == b) return -1;
        int was = now.foes[a][b] ? 1 : 0;
        now.foes[a][b] = is;
        now.foes[b][a] = is;
        return was;
    }

    int set(int what, int v) {
        int was = is(what);
        if (what == 0 && in(v, -9, 9)) now.mood = v;
        else if (what == 1 && in(v, 0, 999)) now.level = v;
        else if (what == 2 && in(v, 0, 9)) now.rain = v;
        else return -100001;
        return was;
    }

    int is(int what) {
        int[] all = {now.mood, now.level, now.rain, now.sweet, now.salt, now.hour, now.folk.size(), now.plan.length(), now.last};
        return in(what, 0, 8) ? all[what] : -100001;
    }

    int type(long w, int n) {
        if (!in(n, 1, 8)) return -1;
        String more = "";
        for (int i = 0; i < n; i++) {
            int b = (int) (w >>> 8 * i & 255);
            if (!in(b, 32, 126)) return -1;
            more = (char) b + more;
        }
        if (tape.length() + n > 60) return -3;
        tape += more;
        return tape.length();
    }

    /** The first place at which a text of FOLK can't go on; -1: it is one. */
    static int fault(String text) {
        String state = "begin";
        int people = 0;
        for (int i = 0; i < text.length(); i++) {
            if (text.charAt(i) == ' ') continue;
            String next = null;
            for (String[] step : STEPS) {
                if (step[0].equals(state) && step[1].indexOf(text.charAt(i)) >= 0) next = step[2];
            }
            if (next == null) return i;
            if (next.equals("begin") && ++people == 6) return i;
            state = next;
        }
        boolean mayEnd = state.equals("kind") || state.equals("feels") || state.equals("rests");
        return mayEnd ? -1 : text.length();
    }

    /** Of each: behind what, which signs, then what. */
    static final String[][] STEPS = {{"begin", "psvm", "kind"}, {"kind", "+-", "sign"}, {"kind", "r", "r"},
        {"kind", ",", "begin"}, {"sign", "0123", "feels"}, {"feels", "r", "r"}, {"feels", ",", "begin"},
        {"r", "123456789", "rests"}, {"rests", ",", "begin"}};

    int village() {
        String text = tape;
        tape = "";
        int at = fault(text);
        if (at >= 0) return -20 - at;
        now.folk.clear();
        for (String one : text.replace(" ", "").split(",")) {
            int[] who = {"psvm".indexOf(one.charAt(0)), 0, 1, now.hour};
            for (int i = 1; i < one.length(); i += 2) {
                int digit = one.charAt(i + 1) - '0';
                if (one.charAt(i) == 'r') who[2] = digit;
                else who[1] = one.charAt(i) == '-' ? -digit : digit;
            }
            now.folk.add(who);
        }
        now.foes = new boolean[6][6];
        now.last = 9;
        now.plan = "";
        return now.folk.size();
    }

    int plan() {
        String text = tape;
        tape = "";
        String signs = ".012345".substring(0, 1 + now.folk.size());
        String told = "";
        for (int i = 0; i < text.length(); i++) {
            char c = text.charAt(i);
            if (c == ' ') continue;
            if (signs.indexOf(c) < 0 || told.length() == 24) return -20 - i;
            told += c;
        }
        if (told.isEmpty()) return -20 - text.length();
        now.plan = told;
        return told.length();
    }

    int may() {
        int set = 0;
        for (int i = 0; i < 6; i++) set += now.may(i) ? 1 << i : 0;
        return set;
    }

    int draw(int one) {
        if (one != 9 && !now.there(one)) return -1;
        if (one != 9 && !now.may(one)) return -2;
        return now.hour == 9999 ? -3 : now.hour(one);
    }

    int pass(int n) {
        if (!in(n, 1, 60)) return -1;
        if (now.hour + n > 9999) return -3;
        for (int i = 0; i < n; i++) now.hour(9);
        return now.hour;
    }

    int run() {
        if (now.hour + now.plan.length() > 9999) return -3;
        int passed = 0;
        for (char c : now.plan.toCharArray()) {
            int one = c == '.' ? 9 : c - '0';
            if (one != 9 && !now.may(one)) break;
            now.hour(one);
            passed++;
        }
        return passed;
    }

    /** SWEET PAILS by a row; -1: one of it MAY not. */
    static int sweetBy(State from, int[] row) {
        State s = from.copy();
        for (int one : row) {
            if (one != 9 && !s.may(one)) return -1;
            s.hour(one);
        }
        return s.sweet - from.sweet;
    }

    /** MOST, and behind it THE ROW: all rows in their order, the first of the best. */
    static int[] best(State from, int n) {
        int ways = from.folk.size() + 1;
        int all = 1;
        for (int i = 0; i < n; i++) all *= ways;
        int[] best = new int[n + 1];
        best[0] = -1;
        for (int k = 0; k < all; k++) {
            int[] row = new int[n];
            int rest = k;
            for (int i = n - 1; i >= 0; i--) {
                row[i] = rest % ways == ways - 1 ? 9 : rest % ways;
                rest /= ways;
            }
            int sweet = sweetBy(from, row);
            if (sweet > best[0]) {
                best[0] = sweet;
                System.arraycopy(row, 0, best, 1, n);
            }
        }
        return best;
    }

    int most(int n) {
        return in(n, 1, 5) ? best(now, n)[0] : -1;
    }

    int row(int n, int i) {
        return in(n, 1, 5) && in(i, 0, n - 1) ? best(now, n)[1 + i] : -1;
    }

    int fewest(int pails) {
        if (!in(pails, 0, 99)) return -1;
        for (int n = 0; n <= 5; n++) {
            if (pails <= best(now, n)[0]) return n;
        }
        return -4;
    }

    int peace() {
        int best = best(now, 4)[0];
        int pair = -4;
        for (int k = 1; k < 100; k++) {
            int a = k / 10, b = k % 10;
            if (a < b && now.there(b) && now.foes[a][b]) {
                State s = now.copy();
                s.foes[a][b] = false;
                s.foes[b][a] = false;
                int most = best(s, 4)[0];
                if (most > best) {
                    best = most;
                    pair = k;
                }
            }
        }
        return pair;
    }

    int gives(int one, int mood) {
        if (!now.there(one) || !in(mood, -9, 9)) return -1;
        int kind = now.folk.get(one)[0];
        return Math.min(now.level, raw(kind, mood)) + (sweet(kind, mood) ? 0 : 10);
    }

    int stranger(int mood, int one, int pails) {
        if (!in(mood, -9, 9) || !now.there(one) || !in(pails, 0, 9)) return -1;
        int set = 0;
        for (int f = -3; f <= 3; f++) {
            int then = nearer(behind(new int[] {0, f}, mood));
            if (raw(now.folk.get(one)[0], then) == pails) set += 1 << f + 3;
        }
        return set;
    }

    int liar(int a, int moodA, int pailsA, int b, int moodB, int pailsB) {
        if (!now.there(a) || !now.there(b) || a == b || !in(moodA, -9, 9) || !in(moodB, -9, 9)
            || !in(pailsA, 0, 9) || !in(pailsB, 0, 9)) return -1;
        return (raw(now.folk.get(a)[0], moodA) != pailsA ? 1 : 0) + (raw(now.folk.get(b)[0], moodB) != pailsB ? 2 : 0);
    }

    int other(int n) {
        if (!in(n, 1, 5)) return -1;
        State s = now.copy();
        s.mood = -s.mood;
        return best(s, n)[0];
    }

    int drawn(int n) {
        if (!in(n, 1, 60)) return -1;
        if (now.hour + n > 9999) return -3;
        int pails = 0;
        for (int i = 0; i < n; i++) {
            now.lots = (now.lots * 1103515245L + 12345L) % (1L << 31);
            int one = (int) (now.lots / 65536 % (now.folk.size() + 1));
            pails += now.hour(now.may(one) ? one : 9);
        }
        return pails;
    }

    int seed(int v) {
        if (v < 0) return -1;
        int was = (int) now.lots;
        now.lots = v;
        return was;
    }

    int image() {
        image = now.copy();
        return 1;
    }

    int restore() {
        if (image == null) return -4;
        now = image.copy();
        return 1;
    }

    /** NULL, CAST, INDEX of a SHEET, or 0. */
    private int machine(int sheet, int lane, long from, long n) {
        if (sheets[sheet] == null) return -11;
        if (lanes[sheet] != lane) return -12;
        return n < 0 || from < 0 || from + n > sheets[sheet].length ? -13 : 0;
    }

    int fit(int sheet, int lane, int from, int n) {
        if (!in(sheet, 0, 3) || !in(lane, 0, 2) || !in(n, 1, 8)) return -1;
        int found = machine(sheet, lane, from, 2 * n);
        if (found != 0) return found;
        long[] items = sheets[sheet];
        int set = 0;
        for (int i = 0; i < n; i++) {
            if (!in(items[from + 2 * i], 0, now.folk.size() - 1) || !in(items[from + 2 * i + 1], 0, 9)) return -2;
        }
        for (int m = -9; m <= 9; m++) {
            int mood = m;
            boolean fits = true;
            for (int i = 0; i < n; i++) {
                int[] who = now.folk.get((int) items[from + 2 * i]);
                fits &= raw(who[0], mood) == items[from + 2 * i + 1];
                mood = nearer(behind(who, mood));
            }
            set += fits ? 1 << m + 9 : 0;
        }
        return set;
    }

    int film(int one, int sheet, int lane, int from) {
        if (!now.there(one) || !in(sheet, 0, 3) || !in(lane, 0, 2)) return -1;
        int found = machine(sheet, lane, from, 19);
        if (found != 0) return found;
        for (int m = -9; m <= 9; m++) sheets[sheet][from + m + 9] = gives(one, m);
        return 19;
    }

    int sheet(int sheet, int lane, int n) {
        if (!in(sheet, 0, 3) || !in(lane, 0, 2) || n > 24) return -1;
        if (n < 0) return -14;
        sheets[sheet] = new long[n];
        lanes[sheet] = lane;
        return n;
    }

    int drop(int sheet) {
        if (!in(sheet, 0, 3)) return -1;
        if (sheets[sheet] == null) return -11;
        int n = sheets[sheet].length;
        sheets[sheet] = null;
        return n;
    }

    int item(int sheet, int lane, int i, long v) {
        if (!in(sheet, 0, 3) || !in(lane, 0, 2)) return -1;
        int found = machine(sheet, lane, i, 1);
        if (found != 0) return found;
        int unused = new int[] {56, 48, 0}[lane];
        sheets[sheet][i] = v << unused >> unused;
        return 1;
    }

    int copy(int from, int i, int to, int j, int n) {
        if (!in(from, 0, 3) || !in(to, 0, 3)) return -1;
        if (sheets[from] == null || sheets[to] == null) return -11;
        if (lanes[from] != lanes[to]) return -12;
        if (machine(from, lanes[from], i, n) != 0 || machine(to, lanes[to], j, n) != 0) return -13;
        long[] taken = sheets[from].clone();
        for (int k = 0; k < n; k++) sheets[to][j + k] = taken[i + k];
        return n;
    }
}
