import java.io.IOException;
import java.lang.reflect.Method;
import java.lang.reflect.Modifier;
import java.nio.file.Files;
import java.nio.file.Path;
import java.util.Set;
import java.util.TreeSet;
import java.util.regex.Matcher;
import java.util.regex.Pattern;

/** README.md, read from the folder that the test runs in: its example and its table are true of the class. */
public final class ReadmeTest {
    private static final Pattern MADE = Pattern.compile(
        "GoppaCrypt cipher = new GoppaCrypt\\((-?\\d+), (-?\\d+)\\);.*");
    private static final Pattern CALL = Pattern.compile(
        "cipher\\.(\\w+)\\((-?\\d*)\\); *// (true|false|-?\\d+)(:.*)?");
    private static final Pattern ROW = Pattern.compile("(?m)^\\| `(\\w+)\\(([^)]*)\\)` \\|");

    public static void main(String[] args) throws IOException, ReflectiveOperationException {
        Due due = new Due("ReadmeTest");
        String readme = Files.readString(Path.of("README.md"));
        example(due, readme);
        table(due, readme);
        due.end();
    }

    private static void example(Due due, String readme) throws ReflectiveOperationException {
        String[] lines = exampleIn(readme).split("\n");
        Matcher made = MADE.matcher(lines[0]);
        if (!made.matches()) {
            due.holds("README.md's example makes an object", false);
            return;
        }
        GoppaCrypt cipher = new GoppaCrypt(Integer.parseInt(made.group(1)), Integer.parseInt(made.group(2)));
        Set<String> called = new TreeSet<>();
        for (int i = 1; i < lines.length; i++) {
            if (!lines[i].isBlank()) {
                called.add(line(due, cipher, lines[i]));
            }
        }
        due.holds("the example goes over encrypt() to decrypt(), not only " + called,
            called.contains("encrypt") && called.contains("decrypt"));
    }

    private static String exampleIn(String readme) {
        String opening = "```java\n";
        int start = readme.indexOf(opening) + opening.length();
        int end = readme.indexOf("```", start);
        return readme.contains(opening) && end >= 0 ? readme.substring(start, end) : "";
    }

    /** A line that is not a call with its answer is wrong, so that no line goes unlooked at. */
    private static String line(Due due, GoppaCrypt cipher, String line) throws ReflectiveOperationException {
        Matcher call = CALL.matcher(line);
        if (!call.matches()) {
            due.holds("the example's line is a call with its answer: " + line, false);
            return line;
        }
        String answer = answerOf(cipher, call.group(1), call.group(2));
        due.holds("the example shows " + answer + ": " + line, answer.equals(call.group(3)));
        return call.group(1);
    }

    private static String answerOf(GoppaCrypt cipher, String method, String argument)
            throws ReflectiveOperationException {
        if (argument.isEmpty()) {
            return GoppaCrypt.class.getMethod(method).invoke(cipher).toString();
        }
        return GoppaCrypt.class.getMethod(method, int.class).invoke(cipher, Integer.valueOf(argument)).toString();
    }

    private static void table(Due due, String readme) {
        Set<String> methods = new TreeSet<>();
        for (Method method : GoppaCrypt.class.getDeclaredMethods()) {
            if (Modifier.isPublic(method.getModifiers())) {
                methods.add(method.getName() + " of " + method.getParameterCount());
            }
        }
        Set<String> rows = new TreeSet<>();
        Matcher row = ROW.matcher(readme);
        while (row.find()) {
            int parameters = row.group(2).isEmpty() ? 0 : row.group(2).split(",").length;
            rows.add(row.group(1) + " of " + parameters);
        }
        due.holds("README.md's table has the public methods, not " + rows, rows.equals(methods));
    }
}
