import java.lang.reflect.Method;

/** The terms and each promise have tests of their boundaries, each of which is run: it is static and takes nothing. */
final class EachPromiseTest {
    private static final Due due = new Due();
    private static final Class<?>[] TESTS = {TermsBoundsTest.class, FolkBoundsTest.class, TextsBoundsTest.class,
        HoursBoundsTest.class, WhatWasBoundsTest.class, SheetsBoundsTest.class};

    public static void main(String[] args) {
        due.is("of the terms", testsOf("terms_") > 0 ? 1 : 0, 1);
        for (int promise = 1; promise <= 31; promise++) {
            String begin = promise < 10 ? "p0" + promise + "_" : "p" + promise + "_";
            due.is("of promise " + promise, testsOf(begin) > 0 ? 1 : 0, 1);
        }
        due.is("of no promise", testsOf("p00_") + testsOf("p32_"), 0);
        due.end();
    }

    private static int testsOf(String begin) {
        int n = 0;
        for (Class<?> tests : TESTS) {
            for (Method m : tests.getDeclaredMethods()) {
                if (m.getName().startsWith(begin)) {
                    due.is(m.getName() + " takes nothing", m.getParameterCount(), 0);
                    n++;
                }
            }
        }
        return n;
    }
}
