import java.io.IOException;
import java.lang.reflect.Method;
import java.lang.reflect.Modifier;
import java.nio.file.Files;
import java.nio.file.Path;
import java.util.Arrays;
import java.util.List;
import java.util.regex.Matcher;
import java.util.regex.Pattern;

/** Those rules of LANGUAGE.md that can be read off the source, and that only the constructor makes arrays. */
public final class LanguageTest {
    private static final String IMPORTS = "java.util.Arrays java.util.NoSuchElementException";
    // Some of these LANGUAGE.md would allow with conditions; the program needs none of them.
    private static final List<String> NOT_USED = List.of("package", "finally", "synchronized", "assert", "volatile",
        "transient", "native", "strictfp", "instanceof", "try", "catch", "protected", "double", "float", "Object", "var",
        "Random", "Thread", "getMessage", "hashCode", "toString", "equals");
    private static final List<String> LIBRARY = List.of("Arrays.fill", "Math.abs", "Math.max", "Math.min");
    private static final int MOST_LINES = 60;
    private static final int MOST_PARAMETERS = 7;
    private static final int MOST_FIELDS = 20;

    private static int wrong = 0;

    private static void due(String what, Object got, Object want) {
        if (!got.equals(want)) {
            wrong++;
            System.out.println(what + " is " + got + ", due is " + want);
        }
    }

    private static List<String> found(String pattern, String text) {
        return Pattern.compile(pattern).matcher(text).results().map(each -> each.group()).toList();
    }

    private static void words(String source) {
        for (String word : NOT_USED) {
            due("where '" + word + "' stands", found("\\b" + word + "\\b", source), List.of());
        }
        due("lambdas and references to methods", found("->|::", source), List.of());
        due("imports", String.join(" ", found("(?<=import )[^;]+", source)), IMPORTS);
        for (String call : found("\\b[A-Z][a-z]\\w*\\.\\w+", source.replaceAll("import [^;]+;", ""))) {
            due("whether " + call + " is used", LIBRARY.contains(call), true);
        }
        due("classes", found("\\b(class|interface|enum|record) \\w+", source), List.of("class HeightLines"));
    }

    private static void rooms(String source) {
        int from = source.indexOf("public HeightLines()");
        String constructor = source.substring(from, source.indexOf("\n    }\n", from));
        String rest = source.replace(constructor, "");
        due("throws in the constructor", found("\\bthrow\\b", constructor), List.of());
        due("what is made outside of it", found("\\bnew \\w+", rest), List.of("new NoSuchElementException"));
        due("copies", found("\\bclone\\b|copyOf\\w*", source), List.of());
    }

    private static void methods(String source) {
        Matcher method = Pattern.compile("(?ms)^    \\w[^=;{}]*\\{\n.*?^    }$").matcher(source);
        int seen = 0;
        while (method.find()) {
            seen++;
            long lines = method.group().lines().count();
            due("whether it is short: " + method.group().lines().findFirst().get(), lines <= MOST_LINES, true);
        }
        Method[] all = HeightLines.class.getDeclaredMethods();
        due("methods and constructors found", seen, all.length + 1);
        for (Method each : all) {
            due("few parameters of " + each, each.getParameterCount() <= MOST_PARAMETERS, true);
        }
    }

    private static void loops(String source) {
        // Each loop counts one number up against a bound that does not change within it.
        List<String> counted = found("\\bfor \\(int (\\w+) = [^;]+; [^;]*\\b\\1\\b[^;]* < [^;]+; \\1\\+\\+\\)", source);
        due("loops with a counter", counted.size(), found("\\bfor\\b|\\bwhile\\b|\\bdo\\b", source).size());
    }

    private static void fields() {
        long own = Arrays.stream(HeightLines.class.getDeclaredFields())
            .filter(each -> !Modifier.isStatic(each.getModifiers())).count();
        due("few fields", own <= MOST_FIELDS, true);
    }

    public static void main(String[] args) throws IOException {
        String written = Files.readString(Path.of("src/main/java/HeightLines.java"));
        String source = written.replaceAll("(?s)/\\*.*?\\*/", "").replaceAll("//[^\n]*", "");
        words(source);
        rooms(source);
        methods(source);
        loops(source);
        fields();
        System.out.println(wrong == 0 ? "the language is as due" : wrong + " answers are not as due");
        if (wrong != 0) {
            System.exit(1);
        }
    }
}
