import java.lang.reflect.Constructor;
import java.lang.reflect.Field;
import java.lang.reflect.Method;
import java.lang.reflect.Modifier;
import java.util.Arrays;
import java.util.TreeSet;

/** The public face, and the rules of LANGUAGE.md about members. */
final class FaceTest {
    private static final Due due = new Due();

    private static final String[] METHODS = {
        "int copy(int, int, int, int, int)", "int draw(int)", "int drawn(int)", "int drop(int)", "int fewest(int)",
        "int film(int, int, int, int)", "int fit(int, int, int, int)", "int folk(int, int, int)", "int gives(int, int)",
        "int image()", "int is(int)", "int item(int, int, int, long)", "int liar(int, int, int, int, int, int)",
        "int may()", "int most(int)", "int other(int)", "int pass(int)", "int peace()", "int plan()",
        "int quarrel(int, int, boolean)", "int restore()", "int row(int, int)", "int run()", "int seed(int)",
        "int set(int, int)", "int sheet(int, int, int)", "int stranger(int, int, int)", "int told(int, int)",
        "int type(long, int)", "int village()"};

    public static void main(String[] args) {
        constants();
        methods();
        inside();
        due.end();
    }

    private static void constants() {
        due.is("BAD", WellMoods.BAD, -1);
        due.is("NOT", WellMoods.NOT, -2);
        due.is("FULL", WellMoods.FULL, -3);
        due.is("NONE", WellMoods.NONE, -4);
        due.is("NULL", WellMoods.NULL, -11);
        due.is("CAST", WellMoods.CAST, -12);
        due.is("INDEX", WellMoods.INDEX, -13);
        due.is("SIZE", WellMoods.SIZE, -14);
        int open = 0;
        for (Field f : WellMoods.class.getDeclaredFields()) {
            open += Modifier.isPrivate(f.getModifiers()) ? 0 : 1;
            boolean isStatic = Modifier.isStatic(f.getModifiers());
            due.is("a static field that is not final: " + f, isStatic && !Modifier.isFinal(f.getModifiers()) ? 1 : 0, 0);
        }
        due.is("constants", open, 8);
    }

    private static String face(Method m) {
        String types = Arrays.toString(m.getParameterTypes());
        return m.getReturnType() + " " + m.getName() + "(" + types.substring(1, types.length() - 1) + ")";
    }

    private static void methods() {
        TreeSet<String> faces = new TreeSet<>();
        TreeSet<String> names = new TreeSet<>();
        for (Method m : WellMoods.class.getDeclaredMethods()) {
            if (!Modifier.isPrivate(m.getModifiers())) {
                due.is("not public, or static: " + m, m.getModifiers(), Modifier.PUBLIC);
                faces.add(face(m));
                names.add(m.getName());
            }
        }
        due.is("the methods of the face: " + faces, faces.equals(new TreeSet<>(Arrays.asList(METHODS))) ? 1 : 0, 1);
        for (Method m : WellMoods.class.getDeclaredMethods()) {
            boolean hidden = Modifier.isPrivate(m.getModifiers());
            due.is("private, with a public name: " + m, hidden && names.contains(m.getName()) ? 1 : 0, 0);
            due.is("more than seven parameters: " + m, m.getParameterCount() > 7 ? 1 : 0, 0);
        }
        Constructor<?>[] made = WellMoods.class.getDeclaredConstructors();
        due.is("constructors", made.length, 1);
        due.is("the constructor's parameters", made[0].getParameterCount(), 0);
        due.is("the constructor is public", made[0].getModifiers(), Modifier.PUBLIC);
        due.is("the class", WellMoods.class.getModifiers(), Modifier.PUBLIC | Modifier.FINAL);
    }

    private static boolean isOfFace(String name) {
        for (String method : METHODS) {
            if (method.startsWith("int " + name + "(")) {
                return true;
            }
        }
        return false;
    }

    private static void inside() {
        Class<?>[] classes = WellMoods.class.getDeclaredClasses();
        due.is("too many classes", classes.length > 12 ? 1 : 0, 0);
        for (Class<?> c : classes) {
            int m = c.getModifiers();
            due.is("not static, or open: " + c, Modifier.isStatic(m) && Modifier.isPrivate(m) ? 1 : 0, 1);
            due.is("too many fields: " + c, c.getDeclaredFields().length > 20 ? 1 : 0, 0);
            for (Method own : c.getDeclaredMethods()) {
                due.is("private, with a public name: " + own, isOfFace(own.getName()) ? 1 : 0, 0);
                due.is("open: " + own, Modifier.isPrivate(own.getModifiers()) ? 1 : 0, 1);
                due.is("more than seven parameters: " + own, own.getParameterCount() > 7 ? 1 : 0, 0);
            }
        }
    }
}
