import java.lang.reflect.InvocationTargetException;
import java.lang.reflect.Method;
import java.util.ArrayList;
import java.util.Arrays;
import java.util.Comparator;
import java.util.List;

/**
 * What the tests of boundaries share. Such a test is a static method without arguments, named by what it speaks of:
 * terms_.. or p01_.. to p31_.. (the promise), then the boundary. Each is run by itself, on objects of its own.
 */
abstract class Bounds {
    static final int BAD = WellMoods.BAD, NOT = WellMoods.NOT, FULL = WellMoods.FULL, NONE = WellMoods.NONE;
    static final int NULL = WellMoods.NULL, CAST = WellMoods.CAST, INDEX = WellMoods.INDEX, SIZE = WellMoods.SIZE;
    static final int BAD_APART = -100001;
    static final int MIN = Integer.MIN_VALUE, MAX = Integer.MAX_VALUE;
    static final int NOBODY = 9;

    private static final Due due = new Due();
    private static String test = "";

    /** What is done to a new object ahead of the call that a test looks at. */
    interface Past {
        void lead(WellMoods x);
    }

    interface Call {
        long on(WellMoods x);
    }

    // ---- running

    static void runAll(Class<?> tests) {
        Method[] methods = tests.getDeclaredMethods();
        Arrays.sort(methods, Comparator.comparing(Method::getName));
        int run = 0;
        for (Method m : methods) {
            if (m.getName().matches("(terms|p\\d\\d)_\\w+")) {
                runOne(m);
                run++;
            }
        }
        System.out.println(run + " tests of a boundary each");
        due.end();
    }

    private static void runOne(Method m) {
        test = m.getName();
        try {
            m.invoke(null);
        } catch (InvocationTargetException e) {
            due("threw " + e.getCause(), 1, 0);
        } catch (IllegalAccessException e) {
            due("can't be run: " + e, 1, 0);
        }
    }

    // ---- what is due

    static void due(String what, long got, long want) {
        due.is(test + ": " + what, got, want);
    }

    static void due(long got, long want) {
        due.is(test, got, want);
    }

    /** This call, behind this past, answers so. */
    static void answers(Past past, Call call, long want) {
        due(call.on(after(past)), want);
    }

    /** This call, behind this past, answers so and changes nothing: all later calls answer as if it had not been. */
    static void unchanged(Past past, Call call, long want) {
        WellMoods with = after(past);
        due(call.on(with), want);
        alike(with, after(past));
    }

    /** Its name for a call that is refused. */
    static void refused(Past past, Call call, long want) {
        unchanged(past, call, want);
    }

    /** A question of what is, which is no refusal. */
    static void asked(Past past, Call call, long want) {
        unchanged(past, call, want);
    }

    /** This text, typed behind this past, is refused: later calls answer as if it had not been typed. */
    static void refusedText(Past past, String text, Call call, long want) {
        WellMoods with = after(past);
        Due.type(with, text);
        due("of '" + text + "'", call.on(with), want);
        alike(with, after(past));
    }

    private static void alike(WellMoods with, WellMoods without) {
        List<Long> got = later(with);
        List<Long> want = later(without);
        due("how many later answers", got.size(), want.size());
        for (int i = 0; i < Math.min(got.size(), want.size()); i++) {
            due("a later call, the " + i + "-th,", got.get(i), want.get(i));
        }
    }

    // ---- pasts

    static WellMoods after(Past past) {
        WellMoods x = new WellMoods();
        past.lead(x);
        return x;
    }

    static Past village(String text) {
        return x -> Due.village(x, text);
    }

    /** One of this text, 0, at a MOOD. */
    static WellMoods at(String text, int mood) {
        WellMoods x = Due.well(text);
        x.set(0, mood);
        return x;
    }

    static void nothing(WellMoods x) {
    }

    /** Four of FOLK, of each KIND one, of whom some QUARREL, two rest; all else that can be told is told; THE TAPE is empty. */
    static void settled(WellMoods x) {
        Due.village(x, "p+1r2,s-2,v+3r4,m-1");
        x.quarrel(0, 1, true);
        x.quarrel(2, 3, true);
        Due.plan(x, "1.03");
        x.set(0, 5);
        x.set(1, 150);
        x.set(2, 2);
        x.seed(4711);
        x.draw(1);
        x.image();
        x.draw(2);
        x.draw(0);
        fill(x, 0, 0, 1, 2, 3, 3, 0, 4);
        x.sheet(1, 1, 24);
        x.film(1, 1, 1, 2);
        fill(x, 2, 2, 2, 4, 1, 5, 0);
    }

    /** As settled, with a text on THE TAPE. */
    static void lived(WellMoods x) {
        settled(x);
        Due.type(x, "s,pr2,m+1");
    }

    /** As settled, with six of FOLK. */
    static void six(WellMoods x) {
        settled(x);
        x.folk(1, 3, 9);
        x.folk(0, -3, 1);
    }

    /** As settled, in the last HOUR. */
    static void lastHour(WellMoods x) {
        settled(x);
        toHour(x, 9999);
    }

    /** As settled, in this HOUR. */
    static Past hour(int hour) {
        return x -> {
            settled(x);
            toHour(x, hour);
        };
    }

    static void toHour(WellMoods x, int hour) {
        while (x.is(5) < hour) {
            x.pass(Math.min(60, hour - x.is(5)));
        }
    }

    static void fill(WellMoods x, int sheet, int lane, long... items) {
        x.sheet(sheet, lane, items.length);
        for (int i = 0; i < items.length; i++) {
            x.item(sheet, lane, i, items[i]);
        }
    }

    // ---- later calls

    /** The answers of calls that show all that an object holds; few enough that a past of 200 calls can stand ahead. */
    private static List<Long> later(WellMoods x) {
        List<Long> all = new ArrayList<>();
        village(x, all);
        hours(x, all);
        for (int sheet = 0; sheet < 4; sheet++) {
            sheet(x, sheet, all);
        }
        add(all, x.type(' ', 1), x.run());
        well(x, all);
        add(all, x.drawn(9), x.seed(1));
        well(x, all);
        add(all, x.restore());
        village(x, all);
        add(all, x.run(), x.drawn(9), x.seed(2));
        well(x, all);
        add(all, x.village());
        village(x, all);
        return all;
    }

    private static void add(List<Long> all, long... answers) {
        for (long answer : answers) {
            all.add(answer);
        }
    }

    private static void well(WellMoods x, List<Long> all) {
        for (int what = 0; what <= 8; what++) {
            add(all, x.is(what));
        }
        add(all, x.may());
    }

    private static void village(WellMoods x, List<Long> all) {
        well(x, all);
        for (int one = 0; one < Math.max(1, x.is(6)); one++) {
            for (int what = 0; what <= 4; what++) {
                add(all, x.told(one, what));
            }
        }
    }

    private static void hours(WellMoods x, List<Long> all) {
        for (int n = 1; n <= 5; n++) {
            add(all, x.most(n), x.row(5, n - 1));
        }
        add(all, x.peace(), x.other(3));
    }

    private static void sheet(WellMoods x, int sheet, List<Long> all) {
        for (int lane = 0; lane <= 2; lane++) {
            int there = x.item(sheet, lane, -1, 0);
            add(all, there);
            for (int from = 0; there == INDEX && from <= 22; from++) {
                add(all, x.fit(sheet, lane, from, 1));
            }
        }
        add(all, x.drop(sheet));
    }
}
