import java.io.IOException;
import java.lang.reflect.Field;
import java.lang.reflect.Method;
import java.lang.reflect.Modifier;
import java.nio.charset.StandardCharsets;
import java.nio.file.Files;
import java.nio.file.Path;
import java.util.ArrayList;
import java.util.Comparator;
import java.util.List;
import java.util.TreeSet;
import java.util.regex.Matcher;
import java.util.regex.Pattern;
import java.util.stream.Stream;

/** What README.md tells is so: its program, its examples, its tables of calls, constants and tests. */
final class ReadmeTest {
    private static final Due due = new Due();
    private static final Path MAIN = Path.of("src/main/java/WellMoods.java");
    private static final Pattern REFUSAL = Pattern.compile("\\b(BAD|NOT|FULL|NONE|NULL|CAST|INDEX|SIZE)\\b");
    private static final Pattern ANSWERED = Pattern.compile(".*?(x\\.(\\w+)\\((.*?)\\))\\)?;\\s*// (-?\\d+)(:.*)?");
    private static String text;

    public static void main(String[] args) throws Exception {
        text = Files.readString(Path.of("README.md"));
        List<String> blocks = blocks("java");
        due.is("java blocks: a program, examples of four parts", blocks.size(), 5);
        program(blocks.get(0));
        TreeSet<String> asked = new TreeSet<>();
        for (String block : blocks) {
            examples(block, asked);
        }
        calls(asked);
        constants();
        tests();
        due.end();
    }

    private static List<String> blocks(String of) {
        List<String> found = new ArrayList<>();
        Matcher m = Pattern.compile("(?s)```" + of + "\n(.*?)```").matcher(text);
        while (m.find()) {
            found.add(m.group(1));
        }
        return found;
    }

    /** The page's program, compiled and run by the page's own commands, in a folder that holds nothing else. */
    private static void program(String program) throws IOException, InterruptedException {
        Path folder = Files.createTempDirectory("readme");
        try {
            Files.createDirectories(folder.resolve(MAIN).getParent());
            Files.copy(MAIN, folder.resolve(MAIN));
            Files.writeString(folder.resolve("Village.java"), program);
            List<String> printed = new ArrayList<>();
            for (String command : blocks("sh").get(0).split("\n")) {
                ProcessBuilder b = new ProcessBuilder(command.split(" ")).directory(folder.toFile());
                Process p = b.redirectError(ProcessBuilder.Redirect.INHERIT).start();
                printed.addAll(new String(p.getInputStream().readAllBytes(), StandardCharsets.UTF_8).lines().toList());
                due.is(command, p.waitFor(), 0);
            }
            List<String> told = new ArrayList<>();
            for (String line : program.split("\n")) {
                Matcher m = ANSWERED.matcher(line);
                if (m.matches()) {
                    told.add(m.group(4));
                }
            }
            due.is("the program printed " + printed + ", not " + told, printed.equals(told) && !told.isEmpty() ? 1 : 0, 1);
        } finally {
            remove(folder);
        }
    }

    private static void remove(Path folder) throws IOException {
        try (Stream<Path> files = Files.walk(folder)) {
            for (Path file : files.sorted(Comparator.reverseOrder()).toList()) {
                Files.delete(file);
            }
        }
    }

    /** Each call of a block, in its order, on one object. */
    private static void examples(String block, TreeSet<String> asked) throws ReflectiveOperationException {
        WellMoods x = new WellMoods();
        for (String line : block.split("\n")) {
            boolean isCall = line.contains("x.");
            Matcher m = ANSWERED.matcher(line);
            due.is("a call without its answer: " + line, isCall && !m.matches() ? 1 : 0, 0);
            if (isCall && m.matches()) {
                asked.add(m.group(2));
                due.is("README: " + m.group(1), answer(x, m.group(2), m.group(3)), Long.parseLong(m.group(4)));
            }
        }
    }

    private static int answer(WellMoods x, String name, String arguments) throws ReflectiveOperationException {
        Method method = called(name);
        String[] told = arguments.isEmpty() ? new String[0] : arguments.split(", ");
        Object[] values = new Object[told.length];
        for (int i = 0; i < told.length; i++) {
            Class<?> type = method.getParameterTypes()[i];
            long number = type == boolean.class ? 0 : Long.decode(told[i].replace("L", ""));
            values[i] = type == boolean.class ? (Object) told[i].equals("true") : type == long.class ? (Object) number : (Object) (int) number;
        }
        return (int) method.invoke(x, values);
    }

    private static List<Method> face() {
        List<Method> all = new ArrayList<>();
        for (Method m : WellMoods.class.getDeclaredMethods()) {
            if (Modifier.isPublic(m.getModifiers())) {
                all.add(m);
            }
        }
        return all;
    }

    private static Method called(String name) throws NoSuchMethodException {
        for (Method m : face()) {
            if (m.getName().equals(name)) {
                return m;
            }
        }
        throw new NoSuchMethodException("README.md calls " + name);
    }

    private static List<String> refusalsOf(String told) {
        List<String> all = new ArrayList<>();
        Matcher m = REFUSAL.matcher(told);
        while (m.find()) {
            all.add(m.group());
        }
        return all;
    }

    /** Of each call: its row, with its parameters as the document names them and its refusals in the document's order. */
    private static void calls(TreeSet<String> asked) throws IOException {
        String document = Files.readString(Path.of("../shared/DOC.md"));
        for (Method m : face()) {
            String name = m.getName();
            Matcher row = Pattern.compile("(?m)^\\| `" + name + "\\((.*?)\\)` \\|(.*?)\\|(.+?)\\|(.*?)\\|$").matcher(text);
            Matcher promise = Pattern.compile("`int " + name + "\\((.*?)\\)`: (.*)").matcher(document);
            boolean both = row.find() && promise.find();
            due.is("a row for " + name, both ? 1 : 0, 1);
            due.is("an example of " + name, asked.contains(name) ? 1 : 0, 1);
            if (both) {
                String names = promise.group(1).replaceAll("\\b(int|long|boolean) ", "");
                due.is("the parameters of " + name, row.group(1).equals(names) ? 1 : 0, 1);
                due.is("the refusals of " + name, refusalsOf(row.group(4)).equals(refusalsOf(promise.group(2))) ? 1 : 0, 1);
                due.is("the fault of " + name, row.group(4).contains("fault") ? 1 : 0, promise.group(2).contains("FAULT") ? 1 : 0);
                due.is("100000 less in " + name, row.group(4).contains("100000") ? 1 : 0, promise.group(2).contains("100000") ? 1 : 0);
            }
        }
    }

    private static void constants() throws IllegalAccessException {
        for (Field f : WellMoods.class.getDeclaredFields()) {
            if (Modifier.isPublic(f.getModifiers())) {
                due.is("a row for " + f.getName(), text.contains("\n| `" + f.getName() + "` | " + f.getInt(null) + " |") ? 1 : 0, 1);
            }
        }
    }

    private static void tests() throws IOException {
        TreeSet<String> there = new TreeSet<>();
        try (Stream<Path> files = Files.list(Path.of("src/test/java"))) {
            for (Path file : files.toList()) {
                String name = file.getFileName().toString();
                if (name.endsWith("Test.java")) {
                    there.add(name.replace(".java", ""));
                }
            }
        }
        TreeSet<String> told = new TreeSet<>();
        Matcher m = Pattern.compile("`(\\w+Test)`").matcher(text);
        while (m.find()) {
            told.add(m.group(1));
        }
        due.is("README.md tells of " + told + ", there are " + there, told.equals(there) ? 1 : 0, 1);
        due.is(".ci/run is told", text.contains("\nbash .ci/run\n") && Files.exists(Path.of(".ci/run")) ? 1 : 0, 1);
    }
}
