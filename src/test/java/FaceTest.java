import java.lang.reflect.Constructor;
import java.lang.reflect.Field;
import java.lang.reflect.Method;
import java.lang.reflect.Modifier;
import java.nio.file.Files;
import java.nio.file.Path;
import java.util.ArrayList;
import java.util.Arrays;
import java.util.List;
import java.util.Set;
import java.util.TreeSet;
import java.util.regex.Matcher;
import java.util.regex.Pattern;

/** The public face of the document, and those rules of LANGUAGE.md that can be seen in the text or by reflection. */
public final class FaceTest {
    private static final String[] METHODS = {
        "int told(int)", "int at(int,int)", "int cleared(int,int,int)", "int solution(int,int)", "int nothing(int)",
        "int back(int,int)", "int digit(int,int)", "int rest(int,int)", "long guess(int,int,int)", "long near(int)",
        "long shortly(int)", "long cut(int)", "int size(int)", "int put(int,int,int)", "int side(int,int)",
        "int swap(int,int)", "int mix(int,int,int)", "int turn()", "int prime(int)", "int drift(int)", "int undo(int)",
        "int write(int,int,int)", "int tear()", "int seed(int)", "int keep(int)", "int goBack(int)"
    };
    private static final String[] FORBIDDEN = {
        "\\bthrow\\b", "\\bthrows\\b", "\\btry\\b", "\\bcatch\\b", "\\bsynchronized\\b", "\\bassert\\b", "->", "::",
        "\\bimport\\b", "\\bpackage\\b", "Exact\\b", "\\bprotected\\b", "\\bstatic \\{", "\\bvar\\b", "\\bDouble\\b",
        "\\bFloat\\b", "\\bBig[A-Z]", "\\bSystem\\.(?!arraycopy\\b)", "\\bvolatile\\b", "\\bnative\\b", "\\bThread\\b",
        "\\.(equals|hashCode|toString)\\(", "\\bwhile \\(true\\)", "\\bfor \\(;;\\)"
    };

    public static void main(String[] args) throws Exception {
        constants();
        methods();
        members();
        insideClasses();
        text();
        Check.end();
    }

    private static void constants() {
        Check.due("NONE", LiftedSystems.NONE, -1);
        Check.due("PLUS", LiftedSystems.PLUS, 1000000000);
        Check.due("UNKNOWN", LiftedSystems.UNKNOWN, -1000000001);
        Check.due("OUTSIDE", LiftedSystems.OUTSIDE, -1000000002);
        Check.due("NOT", LiftedSystems.NOT, -1000000003);
        Check.due("FULL", LiftedSystems.FULL, -1000000004);
    }

    private static String signature(Method method) {
        List<String> types = new ArrayList<>();
        for (Class<?> type : method.getParameterTypes()) {
            types.add(type.getName());
        }
        return method.getReturnType().getName() + " " + method.getName() + "(" + String.join(",", types) + ")";
    }

    private static void methods() {
        Set<String> found = new TreeSet<>();
        Set<String> names = new TreeSet<>();
        for (Method method : LiftedSystems.class.getDeclaredMethods()) {
            if (Modifier.isPublic(method.getModifiers())) {
                found.add(signature(method));
                names.add(method.getName());
            }
        }
        Set<String> want = new TreeSet<>(Arrays.asList(METHODS));
        Check.holds("the public methods are " + want + ", found " + found, want.equals(found));
        List<Class<?>> all = new ArrayList<>(Arrays.asList(LiftedSystems.class.getDeclaredClasses()));
        all.add(LiftedSystems.class);
        for (Class<?> type : all) {
            for (Method method : type.getDeclaredMethods()) {
                boolean isPublic = type == LiftedSystems.class && Modifier.isPublic(method.getModifiers());
                Check.holds("rule 1: " + method, isPublic || !names.contains(method.getName()));
                Check.holds("rule 11: " + method, method.getParameterCount() <= 7);
            }
        }
    }

    private static void members() {
        int type = LiftedSystems.class.getModifiers();
        Check.holds("public and final", Modifier.isPublic(type) && Modifier.isFinal(type));
        Set<String> constants = new TreeSet<>();
        for (Field field : LiftedSystems.class.getDeclaredFields()) {
            int m = field.getModifiers();
            if (Modifier.isPublic(m)) {
                constants.add(field.getName());
                Check.holds("a constant: " + field, Modifier.isStatic(m) && Modifier.isFinal(m) && field.getType() == int.class);
            } else {
                Check.holds("rule 1: " + field, Modifier.isPrivate(m));
            }
            Check.holds("rule 5: " + field, !Modifier.isStatic(m) || Modifier.isFinal(m));
        }
        Check.due("public constants", constants.size(), 6);
        for (Method method : LiftedSystems.class.getDeclaredMethods()) {
            int m = method.getModifiers();
            Check.holds("rule 1: " + method, Modifier.isPublic(m) || Modifier.isPrivate(m));
        }
        Constructor<?>[] constructors = LiftedSystems.class.getDeclaredConstructors();
        Check.due("constructors", constructors.length, 1);
        Check.holds("the constructor", Modifier.isPublic(constructors[0].getModifiers()) && constructors[0].getParameterCount() == 0);
    }

    private static void insideClasses() {
        Class<?>[] inside = LiftedSystems.class.getDeclaredClasses();
        Check.holds("rule 11: at most some twelve classes", inside.length + 1 <= 12);
        for (Class<?> type : inside) {
            int m = type.getModifiers();
            Check.holds("rule 1: " + type, Modifier.isStatic(m) && !Modifier.isPublic(m) && !Modifier.isProtected(m));
            int fields = 0;
            for (Field field : type.getDeclaredFields()) {
                boolean isStatic = Modifier.isStatic(field.getModifiers());
                Check.holds("rule 5: " + field, !isStatic || Modifier.isFinal(field.getModifiers()));
                fields += isStatic ? 0 : 1;
            }
            Check.holds("rule 11: fields of " + type, fields <= 20);
        }
    }

    private static void text() throws Exception {
        String source = Files.readString(Path.of("src/main/java/LiftedSystems.java"));
        Check.holds("ASCII alone", source.chars().allMatch(c -> c == '\n' || c >= 32 && c < 127));
        String code = source.replaceAll("(?s)/\\*.*?\\*/", "").replaceAll("//[^\n]*", "");
        for (String word : FORBIDDEN) {
            Matcher matcher = Pattern.compile(word).matcher(code);
            Check.holds("no " + word, !matcher.find());
        }
        lengths(code.split("\n"), "    ");
        lengths(code.split("\n"), "        ");
    }

    private static void lengths(String[] lines, String indent) {
        int start = -1;
        for (int k = 0; k < lines.length; k++) {
            if (lines[k].matches(indent + "\\S.*\\) \\{")) {
                start = k;
            }
            if (lines[k].equals(indent + "}") && start >= 0) {
                Check.holds("rule 11: some sixty lines: " + lines[start].trim(), k - start <= 60);
                start = -1;
            }
        }
    }
}
