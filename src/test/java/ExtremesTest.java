import java.lang.reflect.Method;
import java.lang.reflect.Modifier;

/** Every call with arguments far out, in several states: none throws, and none answers what no call answers. */
final class ExtremesTest {
    private static final Due due = new Due();
    private static final long[] ARGUMENTS = {Long.MIN_VALUE, Integer.MIN_VALUE, Integer.MIN_VALUE + 1, -100001, -9, -1, 0, 1, 5, 6,
        9, 24, 60, 9999, Integer.MAX_VALUE - 1, Integer.MAX_VALUE, Long.MAX_VALUE};
    private static final int CALLS = 500;
    private static long lots = 1;

    public static void main(String[] args) throws ReflectiveOperationException {
        for (int state = 0; state < 5; state++) {
            for (Method m : WellMoods.class.getDeclaredMethods()) {
                if (Modifier.isPublic(m.getModifiers())) {
                    callOften(m, state);
                }
            }
        }
        due.end();
    }

    private static WellMoods in(int state) {
        WellMoods x = new WellMoods();
        if (state >= 1) {
            Due.village(x, "p+3,s-3r9,v,m+1r2,p,s");
            x.quarrel(0, 1, true);
            Due.plan(x, "012345");
        }
        if (state >= 2) {
            x.sheet(0, 0, 24);
            x.sheet(1, 2, 0);
            x.sheet(2, 1, 24);
            x.image();
        }
        while (state >= 3 && x.pass(60) >= 0 || state == 3 && x.pass(1) >= 0) {
            x.draw(1);
        }
        if (state == 4) {
            for (int i = 0; i < 60; i++) {
                x.type(126, 1);
            }
        }
        return x;
    }

    private static void callOften(Method m, int state) throws ReflectiveOperationException {
        WellMoods x = in(state);
        for (int i = 0; i < CALLS / 4; i++) {
            Object[] values = new Object[m.getParameterCount()];
            for (int k = 0; k < values.length; k++) {
                lots = lots * 6364136223846793005L + 1442695040888963407L;
                long v = ARGUMENTS[(int) ((lots >>> 33) % ARGUMENTS.length)];
                Class<?> type = m.getParameterTypes()[k];
                values[k] = type == long.class ? (Object) v : type == boolean.class ? (Object) (v > 0) : (Object) (int) v;
            }
            int answer = (int) m.invoke(x, values);
            boolean isRefusal = answer >= -80 || answer == -100001;
            due.is(m.getName() + " answered " + answer + ": a refusal that is none", isRefusal ? 1 : 0, 1);
        }
    }
}
