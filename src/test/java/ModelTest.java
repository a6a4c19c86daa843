/** Long runs of calls, with arguments by a number that moves on, against the model; some arguments are far out. */
final class ModelTest {
    private static final Due due = new Due();
    private static final int RUNS = 240;
    private static final int CALLS = 500;
    private static final int[] FAR = {Integer.MIN_VALUE, Integer.MAX_VALUE, -1, 10, 25, 61, 100, 1000, -10, -100};
    private static long lots = 20261119;
    private static WellMoods x;
    private static Model m;
    private static String call;

    public static void main(String[] args) {
        for (int run = 1; run <= RUNS; run++) {
            x = new WellMoods();
            m = new Model();
            for (int i = 1; i <= CALLS; i++) {
                one(run, i);
            }
        }
        due.end();
    }

    /** A number of 0 .. n - 1. */
    private static int any(int n) {
        lots = lots * 6364136223846793005L + 1442695040888963407L;
        return (int) ((lots >>> 33) % n);
    }

    private static int in(int least, int greatest) {
        return any(40) == 0 ? FAR[any(FAR.length)] : least + any(greatest - least + 1);
    }

    private static void one(int run, int i) {
        int which = any(42);
        long got;
        long want;
        if (which < 10) {
            long[] both = folkAndWell(which);
            got = both[0];
            want = both[1];
        } else if (which < 21) {
            long[] both = hours(which);
            got = both[0];
            want = both[1];
        } else if (which < 30) {
            long[] both = whatWas(which);
            got = both[0];
            want = both[1];
        } else {
            long[] both = ofSheets(which);
            got = both[0];
            want = both[1];
        }
        due.is("run " + run + ", call " + i + ": " + call, got, want);
    }

    private static String text(String signs, int most) {
        StringBuilder s = new StringBuilder();
        int n = any(most + 1);
        for (int i = 0; i < n; i++) {
            s.append(signs.charAt(any(signs.length())));
        }
        return s.toString();
    }

    private static String folkText() {
        StringBuilder s = new StringBuilder();
        int n = 1 + any(any(8) == 0 ? 7 : 6);
        for (int i = 0; i < n; i++) {
            s.append(i == 0 ? "" : ",").append("psvm".charAt(any(4)));
            s.append(any(3) == 0 ? "" : "+-".charAt(any(2)) + "" + any(any(30) == 0 ? 10 : 4));
            s.append(any(2) == 0 ? "" : "r" + (any(30) == 0 ? 0 : 1 + any(any(2) == 0 ? 9 : 3)));
        }
        if (any(6) == 0) {
            s.insert(any(s.length() + 1), any(2) == 0 ? ' ' : "psvm+-r019, x~".charAt(any(14)));
        }
        return s.toString();
    }

    private static void type(String text) {
        Due.type(x, text);
        for (int i = 0; i < text.length(); i++) {
            m.type(text.charAt(i), 1);
        }
    }

    private static long[] folkAndWell(int which) {
        int a = in(0, 5), b = in(0, 5), c = in(-3, 3), d = in(1, 4);
        boolean is = any(4) != 0;
        long w = any(3) == 0 ? lots : 0x2030312e2c707376L >>> 8 * any(8);
        switch (which) {
            case 0: case 1:
                call = "folk(" + a + ", " + c + ", " + d + ")";
                a = a > 3 && a < 6 ? 1 : a;
                return new long[] {x.folk(a, c, d), m.folk(a, c, d)};
            case 2: case 3:
                call = "told(" + a + ", " + b + ")";
                return new long[] {x.told(a, b), m.told(a, b)};
            case 4: case 5:
                call = "quarrel(" + a + ", " + b + ", " + is + ")";
                return new long[] {x.quarrel(a, b, is), m.quarrel(a, b, is)};
            case 6:
                int what = in(0, 2);
                int v = what == 0 ? in(-9, 9) : what == 1 && any(2) == 0 ? in(0, 999) : in(0, 9);
                call = "set(" + what + ", " + v + ")";
                return new long[] {x.set(what, v), m.set(what, v)};
            case 7:
                int n = in(1, 8);
                call = "type(" + w + ", " + n + ")";
                return new long[] {x.type(w, n), m.type(w, n)};
            case 8:
                String folk = any(4) == 0 ? text("psvm+-r0123, ", 12) : folkText();
                type(folk);
                call = "village of " + m.tape;
                return new long[] {x.village(), m.village()};
            default:
                String plan = any(3) == 0 ? text("01 .23456789x", 6) : text("001122.. 345", 30);
                type(plan);
                call = "plan of " + m.tape;
                return new long[] {x.plan(), m.plan()};
        }
    }

    private static long[] hours(int which) {
        int n = any(4) == 0 ? in(1, 5) : in(1, 3);
        switch (which) {
            case 10: case 11: case 12: case 13:
                int one = any(6) == 0 ? 9 : in(0, 5);
                call = "draw(" + one + ")";
                return new long[] {x.draw(one), m.draw(one)};
            case 14:
                call = "pass(" + n + ")";
                return new long[] {x.pass(n), m.pass(n)};
            case 15:
                call = "run()";
                return new long[] {x.run(), m.run()};
            case 16:
                call = "may()";
                return new long[] {x.may(), m.may()};
            case 17:
                call = "most(" + n + ")";
                return new long[] {x.most(n), m.most(n)};
            case 18:
                int i = in(0, Model.in(n, 1, 5) ? n : 5);
                call = "row(" + n + ", " + i + ")";
                return new long[] {x.row(n, i), m.row(n, i)};
            case 19:
                int pails = in(0, any(3) == 0 ? 99 : 30);
                call = "fewest(" + pails + ")";
                return any(4) != 0 ? all() : new long[] {x.fewest(pails), m.fewest(pails)};
            default:
                call = "peace()";
                return any(3) != 0 ? all() : new long[] {x.peace(), m.peace()};
        }
    }

    /** How all is, of which the first that is not as due. */
    private static long[] all() {
        for (int what = 0; what < 9; what++) {
            call = "is(" + what + ")";
            if (x.is(what) != m.is(what)) {
                return new long[] {x.is(what), m.is(what)};
            }
        }
        return new long[] {0, 0};
    }

    private static long[] whatWas(int which) {
        int a = in(0, 5), b = in(0, 5), c = in(-9, 9), d = in(-9, 9), e = in(0, 9), f = in(0, 9);
        switch (which) {
            case 21:
                call = "gives(" + a + ", " + c + ")";
                return new long[] {x.gives(a, c), m.gives(a, c)};
            case 22:
                call = "stranger(" + c + ", " + a + ", " + e + ")";
                return new long[] {x.stranger(c, a, e), m.stranger(c, a, e)};
            case 23: case 24:
                call = "liar(" + a + ", " + c + ", " + e + ", " + b + ", " + d + ", " + f + ")";
                return new long[] {x.liar(a, c, e, b, d, f), m.liar(a, c, e, b, d, f)};
            case 25:
                int n = any(4) == 0 ? in(1, 5) : in(1, 3);
                call = "other(" + n + ")";
                return new long[] {x.other(n), m.other(n)};
            case 26:
                int hours = in(1, any(3) == 0 ? 60 : 8);
                call = "drawn(" + hours + ")";
                return new long[] {x.drawn(hours), m.drawn(hours)};
            case 27:
                int v = any(4) == 0 ? in(0, Integer.MAX_VALUE - 1) : in(0, 9);
                call = "seed(" + v + ")";
                return new long[] {x.seed(v), m.seed(v)};
            case 28:
                call = "image()";
                return any(2) == 0 ? all() : new long[] {x.image(), m.image()};
            default:
                call = "restore()";
                return any(2) == 0 ? all() : new long[] {x.restore(), m.restore()};
        }
    }

    private static long[] ofSheets(int which) {
        int sheet = in(0, 1), to = in(0, 1), lane = any(5) == 0 ? in(0, 2) : 1;
        int i = in(0, 6), j = in(0, 6), n = in(0, 6);
        switch (which) {
            case 30: case 31: case 32:
                int drawings = in(1, any(4) == 0 ? 8 : 2);
                call = "fit(" + sheet + ", " + lane + ", " + i + ", " + drawings + ")";
                return new long[] {x.fit(sheet, lane, i, drawings), m.fit(sheet, lane, i, drawings)};
            case 33:
                int one = in(0, 2);
                call = "film(" + one + ", " + sheet + ", " + lane + ", " + i + ")";
                return new long[] {x.film(one, sheet, lane, i), m.film(one, sheet, lane, i)};
            case 34:
                int items = any(3) == 0 ? in(-1, 25) : 24;
                call = "sheet(" + sheet + ", " + lane + ", " + items + ")";
                return new long[] {x.sheet(sheet, lane, items), m.sheet(sheet, lane, items)};
            case 35:
                call = "drop(" + sheet + ")";
                return any(4) != 0 ? all() : new long[] {x.drop(sheet), m.drop(sheet)};
            case 36: case 37: case 38:
                call = "copy(" + sheet + ", " + i + ", " + to + ", " + j + ", " + n + ")";
                return new long[] {x.copy(sheet, i, to, j, n), m.copy(sheet, i, to, j, n)};
            default:
                long v = any(8) == 0 ? lots : any(6) == 0 ? any(10) + (256L << 8 * any(4)) : any(3) == 0 ? any(10) : any(5);
                call = "item(" + sheet + ", " + lane + ", " + i + ", " + v + ")";
                return new long[] {x.item(sheet, lane, i, v), m.item(sheet, lane, i, v)};
        }
    }
}
