import java.io.IOException;
import java.lang.reflect.Method;
import java.nio.file.Files;
import java.nio.file.Path;
import java.util.Arrays;
import java.util.Set;
import java.util.TreeSet;
import java.util.regex.Matcher;
import java.util.regex.Pattern;

/** The example of README.md: each call has the answer that stands first in the comment behind it. */
public final class ReadmeTest {
    private static final Pattern CALL = Pattern.compile("lines\\.(\\w+)\\(([^)]*)\\);\\s*// (-?\\w+).*");

    private static int wrong = 0;

    private static void due(String what, Object got, Object want) {
        if (!got.equals(want)) {
            wrong++;
            System.out.println("README.md: " + what + " answered " + got + ", due is " + want);
        }
    }

    private static Method named(String name) {
        return Arrays.stream(HeightLines.class.getMethods()).filter(each -> each.getName().equals(name)).findFirst().orElseThrow();
    }

    private static Object answer(HeightLines lines, String name, String numbers) throws ReflectiveOperationException {
        Object[] values = numbers.isEmpty() ? new Object[0] : Arrays.stream(numbers.split(", ")).map(Integer::valueOf).toArray();
        return named(name).invoke(lines, values);
    }

    public static void main(String[] args) throws IOException, ReflectiveOperationException {
        HeightLines lines = new HeightLines();
        Set<String> called = new TreeSet<>();
        String text = Files.readString(Path.of("README.md"));
        String example = text.substring(text.indexOf("```java"), text.indexOf("```", text.indexOf("```java") + 3));
        for (String line : example.split("\n")) {
            Matcher call = CALL.matcher(line);
            if (call.matches()) {
                due(call.group(), String.valueOf(answer(lines, call.group(1), call.group(2))), call.group(3));
                called.add(call.group(1));
            } else {
                due("a line that is no call, " + line, line.startsWith("lines."), false);
            }
        }
        due("the calls of the example", called.toString(),
            "[crossed, crossing, edge, field, height, isClosed, make, row, set, size, within]");
        System.out.println(wrong == 0 ? "all answers are as due" : wrong + " answers are not as due");
        if (wrong != 0) {
            System.exit(1);
        }
    }
}
