import java.lang.reflect.Method;
import java.lang.reflect.Modifier;
import java.nio.file.DirectoryStream;
import java.nio.file.Files;
import java.nio.file.Path;
import java.util.Set;
import java.util.TreeSet;
import java.util.regex.Matcher;
import java.util.regex.Pattern;

/** README.md tells what is so: its example is run line by line, and it leaves out no call, no constant and no test. */
public final class ReadmeTest {
    private static final Pattern LINE = Pattern.compile("x\\.(\\w+)\\(([^)]*)\\)(?: - (LiftedSystems\\.PLUS|\\d+L))?;(?:\\s+// (.*))?");
    private static final Pattern ANSWER = Pattern.compile("(-?\\d+)(:.*)?");

    public static void main(String[] args) throws Exception {
        String page = Files.readString(Path.of("README.md"));
        example(page);
        calls(page);
        constants(page);
        tests(page);
        Check.end();
    }

    private static void example(String page) throws Exception {
        int from = page.indexOf("```java\n") + 8;
        String[] lines = page.substring(from, page.indexOf("```", from)).split("\n");
        Check.holds("the example begins with a new object", lines[0].startsWith("LiftedSystems x = new LiftedSystems();"));
        LiftedSystems x = new LiftedSystems();
        int answers = 0;
        for (int k = 1; k < lines.length; k++) {
            Matcher line = LINE.matcher(lines[k]);
            boolean isCall = line.matches();
            Check.holds("the example's line is a call: " + lines[k], isCall);
            if (isCall) {
                long answer = ask(x, line.group(1), line.group(2)) - taken(line.group(3));
                Matcher due = ANSWER.matcher(line.group(4) == null ? "" : line.group(4));
                if (due.matches()) {
                    answers++;
                    Check.due(lines[k], answer, Long.parseLong(due.group(1)));
                }
            }
        }
        Check.holds("the example tells answers", answers >= 10);
    }

    private static long taken(String text) {
        if (text == null) {
            return 0;
        }
        return text.endsWith("PLUS") ? LiftedSystems.PLUS : Long.parseLong(text.substring(0, text.length() - 1));
    }

    private static long ask(LiftedSystems x, String name, String text) throws Exception {
        String[] numbers = text.isEmpty() ? new String[0] : text.split(", ");
        Class<?>[] types = new Class<?>[numbers.length];
        Object[] values = new Object[numbers.length];
        for (int k = 0; k < numbers.length; k++) {
            types[k] = int.class;
            values[k] = Integer.parseInt(numbers[k]);
        }
        return ((Number) LiftedSystems.class.getMethod(name, types).invoke(x, values)).longValue();
    }

    private static void calls(String page) {
        Set<String> want = new TreeSet<>();
        for (Method method : LiftedSystems.class.getDeclaredMethods()) {
            if (Modifier.isPublic(method.getModifiers())) {
                want.add(method.getName() + "/" + method.getParameterCount());
            }
        }
        Set<String> found = new TreeSet<>();
        Matcher all = Pattern.compile("`(\\w+)\\(([^)`]*)\\)`").matcher(part(page, "| call |", "## How to run the tests"));
        while (all.find()) {
            found.add(all.group(1) + "/" + (all.group(2).isEmpty() ? 0 : all.group(2).split(", ").length));
        }
        Check.holds("the calls are " + want + ", it tells " + found, want.equals(found));
    }

    private static void constants(String page) throws Exception {
        Set<String> names = new TreeSet<>();
        Matcher all = Pattern.compile("\\| `(\\w+)` \\| (-?\\d+) \\|").matcher(part(page, "| constant |", "| call |"));
        while (all.find()) {
            names.add(all.group(1));
            Check.due(all.group(1), LiftedSystems.class.getField(all.group(1)).getInt(null), Long.parseLong(all.group(2)));
        }
        Check.due("constants it tells", names.size(), LiftedSystems.class.getFields().length);
    }

    private static void tests(String page) throws Exception {
        Set<String> want = new TreeSet<>();
        try (DirectoryStream<Path> files = Files.newDirectoryStream(Path.of("src/test/java"), "*Test.java")) {
            for (Path file : files) {
                want.add(file.getFileName().toString().replace(".java", ""));
            }
        }
        Set<String> found = new TreeSet<>();
        Matcher all = Pattern.compile("\\| `(\\w+Test)` \\|").matcher(part(page, "| test |", "What `SentencesTest` runs"));
        while (all.find()) {
            found.add(all.group(1));
        }
        Check.holds("the tests are " + want + ", it tells " + found, want.equals(found));
        Check.holds("it says how to run them", page.contains("\n    .ci/run\n") && Files.isExecutable(Path.of(".ci/run")));
    }

    private static String part(String page, String start, String end) {
        int from = page.indexOf(start);
        int to = page.indexOf(end, Math.max(from, 0));
        Check.holds("it has " + start + " ahead of " + end, from >= 0 && to > from);
        return from >= 0 && to > from ? page.substring(from, to) : "";
    }
}
