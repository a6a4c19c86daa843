import java.io.IOException;
import java.nio.file.Files;
import java.nio.file.Path;
import java.util.List;
import java.util.regex.Matcher;
import java.util.regex.Pattern;

/** What of LANGUAGE.md can be seen in the program's text. */
final class LanguageTest {
    private static final Due due = new Due();
    private static final String[] WORDS = {"import", "package", "throw", "throws", "try", "catch", "finally", "synchronized",
        "assert", "volatile", "transient", "native", "strictfp", "protected", "instanceof", "super", "var", "yield",
        "equals", "hashCode", "toString", "System.out", "currentTimeMillis", "nanoTime", "Random", "Thread", "Object"};

    public static void main(String[] args) throws IOException {
        Path file = Path.of("src/main/java/WellMoods.java");
        String text = Files.readString(file);
        String code = text.replaceAll("(?s)/\\*.*?\\*/", "").replaceAll("//[^\n]*", "").replaceAll("'(\\\\.|[^'\\\\])'", "0");
        for (String word : WORDS) {
            due.is("the word " + word, Pattern.compile("\\b" + Pattern.quote(word) + "\\b").matcher(code).find() ? 1 : 0, 0);
        }
        for (String sign : new String[] {"->", "::", "\"", "@", "goto"}) {
            due.is("the sign " + sign, code.contains(sign) ? 1 : 0, 0);
        }
        library(code);
        arraysInCalls(code);
        shortMethods(Files.readAllLines(file));
        due.is("signs above 127", text.chars().filter(c -> c > 127).count(), 0);
        due.end();
    }

    private static void library(String code) {
        Matcher m = Pattern.compile("\\b(System|Math|Integer|Long|Arrays|String|StringBuilder|ArrayList|List)\\.?(\\w*)").matcher(code);
        while (m.find()) {
            String use = m.group();
            boolean listed = List.of("System.arraycopy", "Math.min", "Math.max", "Integer.compare").contains(use);
            due.is("the library's " + use, listed ? 1 : 0, 1);
        }
    }

    /** All rows are made with the object: no call makes any. */
    private static void arraysInCalls(String code) {
        for (String line : code.split("\n")) {
            boolean makes = line.contains("new ");
            boolean inMaking = line.contains("private final ") || line.contains("sheets[i] = new Sheet()");
            due.is("made by a call: " + line.trim(), makes && !inMaking ? 1 : 0, 0);
        }
    }

    private static void shortMethods(List<String> lines) {
        int first = 0;
        String end = "";
        for (int i = 0; i < lines.size(); i++) {
            String line = lines.get(i);
            due.is("a line too long: " + (i + 1), line.length() > 130 ? 1 : 0, 0);
            if (line.matches("\\s+(public|private) .*\\) \\{")) {
                first = i;
                end = line.replaceAll("\\S.*", "}");
            }
            if (line.equals(end)) {
                due.is("a method too long, to line " + (i + 1), i - first > 60 ? 1 : 0, 0);
                end = "";
            }
        }
    }
}
