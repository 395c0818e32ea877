import java.lang.reflect.Constructor;
import java.lang.reflect.Field;
import java.lang.reflect.Method;
import java.lang.reflect.Modifier;
import java.nio.file.Files;
import java.nio.file.Path;
import java.util.ArrayList;
import java.util.List;
import java.util.Set;
import java.util.TreeSet;
import java.util.regex.Matcher;
import java.util.regex.Pattern;

/** The public face, as 'The public face' of the document writes it, and what 'Terms' says stands ahead of which calls. */
public final class FaceTest {
    private static final Pattern CONSTANTS = Pattern.compile("public static final int ([^;]*);");
    private static final Pattern METHOD = Pattern.compile("public (int|long) (\\w+)\\(([^)]*)\\);");
    private static final Pattern HEADING = Pattern.compile("Ahead of the calls (.*) the interface says: (---- .*)\\.");
    private static final int METHODS = 26;

    public static void main(String[] args) throws Exception {
        String document = Files.readString(Path.of("../shared/DOC.md"));
        String source = Files.readString(Path.of("src/main/java/LiftedSystems.java"));
        int from = document.indexOf("```java\n");
        String face = document.substring(from, document.indexOf("\n```\n", from));
        constants(face);
        methods(face, source);
        headings(document, source);
        members();
        Check.end();
    }

    private static void constants(String face) throws Exception {
        Matcher all = CONSTANTS.matcher(face);
        Check.holds("the document has constants", all.find());
        Set<String> want = new TreeSet<>();
        for (String one : all.group(1).split(", ")) {
            want.add("public static final int " + one);
        }
        Set<String> found = new TreeSet<>();
        for (Field field : LiftedSystems.class.getDeclaredFields()) {
            if (Modifier.isPublic(field.getModifiers())) {
                found.add(Modifier.toString(field.getModifiers()) + " " + field.getType() + " " + field.getName() + " = " + field.get(null));
            }
        }
        Check.holds("the public constants are " + want + ", found " + found, want.equals(found));
    }

    private static String signature(Method method) {
        List<String> types = new ArrayList<>();
        for (Class<?> type : method.getParameterTypes()) {
            types.add(type.getName());
        }
        return Modifier.toString(method.getModifiers()) + " " + method.getReturnType() + " " + method.getName() + "(" + String.join(", ", types) + ")";
    }

    private static void methods(String face, String source) {
        Set<String> want = new TreeSet<>();
        Matcher all = METHOD.matcher(face);
        while (all.find()) {
            want.add("public " + all.group(1) + " " + all.group(2) + "(" + all.group(3).replaceAll("(\\w+) \\w+", "$1") + ")");
            String line = all.group().replace(";", " {");
            Check.holds("the parameters have the document's names: " + line, source.contains("\n    " + line + "\n"));
        }
        Check.due("methods of the document", want.size(), METHODS);
        Set<String> found = new TreeSet<>();
        for (Method method : LiftedSystems.class.getDeclaredMethods()) {
            if (Modifier.isPublic(method.getModifiers())) {
                found.add(signature(method));
            }
        }
        Check.holds("the public methods are " + want + ", found " + found, want.equals(found));
    }

    /** Between a heading and the next stand just the calls that the document tells for it, in its order. */
    private static void headings(String document, String source) {
        Matcher all = HEADING.matcher(document);
        int count = 0;
        while (all.find()) {
            count++;
            int from = source.indexOf("    // " + all.group(2) + "\n");
            int to = source.indexOf("    // ----", from + 1);
            Check.holds("the text has " + all.group(2), from >= 0 && to > from);
            if (from >= 0 && to > from) {
                Matcher calls = Pattern.compile("\n    public \\w+ (\\w+)\\(").matcher(source.substring(from, to));
                List<String> names = new ArrayList<>();
                while (calls.find()) {
                    names.add("`" + calls.group(1) + "`");
                }
                Check.holds(all.group(2) + " stands ahead of " + names, String.join(", ", names).equals(all.group(1)));
            }
        }
        Check.due("headings of the document", count, 6);
    }

    private static void members() {
        int type = LiftedSystems.class.getModifiers();
        Check.holds("public and final", Modifier.isPublic(type) && Modifier.isFinal(type));
        for (Field field : LiftedSystems.class.getDeclaredFields()) {
            int m = field.getModifiers();
            Check.holds("rule 1: " + field, Modifier.isPrivate(m) || Modifier.isPublic(m));
        }
        for (Method method : LiftedSystems.class.getDeclaredMethods()) {
            int m = method.getModifiers();
            Check.holds("rule 1: " + method, Modifier.isPublic(m) || Modifier.isPrivate(m));
        }
        Constructor<?>[] constructors = LiftedSystems.class.getDeclaredConstructors();
        Check.due("constructors", constructors.length, 1);
        Check.holds("the constructor", Modifier.isPublic(constructors[0].getModifiers()) && constructors[0].getParameterCount() == 0);
    }
}
