import java.lang.reflect.Field;
import java.lang.reflect.Method;
import java.lang.reflect.Modifier;
import java.nio.file.Files;
import java.nio.file.Path;
import java.util.ArrayList;
import java.util.Arrays;
import java.util.HashMap;
import java.util.List;
import java.util.Map;
import java.util.Set;
import java.util.TreeMap;
import java.util.TreeSet;
import java.util.regex.Matcher;
import java.util.regex.Pattern;

/** Those rules of LANGUAGE.md that can be seen in the text or by reflection. */
public final class RulesTest {
    private static final String[] FORBIDDEN = {
        "\\bthrow\\b", "\\bthrows\\b", "\\btry\\b", "\\bcatch\\b", "\\bsynchronized\\b", "\\bassert\\b", "->", "::",
        "\\bimport\\b", "\\bpackage\\b", "Exact\\b", "\\bprotected\\b", "\\bstatic \\{", "\\bvar\\b", "\\bDouble\\b",
        "\\bFloat\\b", "\\bBig[A-Z]", "\\bvolatile\\b", "\\bnative\\b", "\\bThread\\b", "\\bstrictfp\\b", "\\bObject\\b",
        "\\.(equals|hashCode|toString)\\(", "\\bwhile \\(true\\)", "\\bfor \\(;;\\)"
    };
    /** All that the class takes of what rule 4 allows. */
    private static final Set<String> LIBRARY = Set.of("Math.abs", "Math.min", "Math.floorMod", "System.arraycopy");
    private static final Set<String> NO_CALLS = Set.of("if", "for", "while", "switch", "return", "super");
    private static final Pattern METHOD = Pattern.compile(
        "(    |        )(?:(?:public|private|static|final) )*(?:[\\w\\[\\]]+ )?(\\w+)\\([^()]*\\) \\{");
    private static final Pattern CALL = Pattern.compile("\\b(\\w+)\\(");
    private static final int DEEPEST = 8;
    private static final int LONGEST = 60;

    /** By a method's name, what is called in it; methods of one name are taken together, so that no call is missed. */
    private static final Map<String, Set<String>> CALLED = new TreeMap<>();
    private static final Map<String, Integer> DEPTHS = new HashMap<>();

    public static void main(String[] args) throws Exception {
        List<Class<?>> all = new ArrayList<>(Arrays.asList(LiftedSystems.class.getDeclaredClasses()));
        Check.holds("rule 11: at most some twelve classes", all.size() + 1 <= 12);
        all.add(LiftedSystems.class);
        for (Class<?> type : all) {
            classKeepsRules(type);
        }
        String source = Files.readString(Path.of("src/main/java/LiftedSystems.java"));
        Check.holds("ASCII alone", source.chars().allMatch(c -> c == '\n' || c >= 32 && c < 127));
        String code = source.replaceAll("(?s)/\\*.*?\\*/", "").replaceAll("//[^\n]*", "");
        words(code);
        methods(code.split("\n"));
        depths();
        Check.end();
    }

    private static Set<String> publicNames() {
        Set<String> names = new TreeSet<>();
        for (Method method : LiftedSystems.class.getDeclaredMethods()) {
            if (Modifier.isPublic(method.getModifiers())) {
                names.add(method.getName());
            }
        }
        return names;
    }

    private static void classKeepsRules(Class<?> type) {
        boolean inside = type != LiftedSystems.class;
        int m = type.getModifiers();
        Check.holds("rule 1: " + type, !inside || Modifier.isStatic(m) && !Modifier.isPublic(m) && !Modifier.isProtected(m));
        int fields = 0;
        for (Field field : type.getDeclaredFields()) {
            boolean isStatic = Modifier.isStatic(field.getModifiers());
            Check.holds("rule 5: " + field, !isStatic || Modifier.isFinal(field.getModifiers()));
            fields += isStatic ? 0 : 1;
        }
        Check.holds("rule 11: fields of " + type, fields <= 20);
        for (Method method : type.getDeclaredMethods()) {
            boolean isPublic = Modifier.isPublic(method.getModifiers());
            Check.holds("rule 1: " + method, isPublic && !inside || !isPublic && !publicNames().contains(method.getName()));
            Check.holds("rule 11: " + method, method.getParameterCount() <= 7);
        }
    }

    private static void words(String code) {
        for (String word : FORBIDDEN) {
            Check.holds("no " + word, !Pattern.compile(word).matcher(code).find());
        }
        Matcher taken = Pattern.compile("\\b[A-Z]\\w*\\.\\w+(?=\\()").matcher(code);
        while (taken.find()) {
            Check.holds("rule 4: " + taken.group(), LIBRARY.contains(taken.group()));
        }
    }

    private static void methods(String[] lines) {
        for (int k = 0; k < lines.length; k++) {
            Matcher method = METHOD.matcher(lines[k]);
            if (method.matches() && !NO_CALLS.contains(method.group(2))) {
                int end = k;
                while (end < lines.length - 1 && !lines[end].equals(method.group(1) + "}")) {
                    end++;
                }
                Check.holds("rule 11: some sixty lines: " + lines[k].trim(), end - k <= LONGEST);
                String body = String.join("\n", Arrays.copyOfRange(lines, k + 1, end));
                CALLED.computeIfAbsent(method.group(2), name -> new TreeSet<>()).addAll(callsIn(body));
            }
        }
    }

    private static Set<String> callsIn(String body) {
        Set<String> names = new TreeSet<>();
        Matcher calls = CALL.matcher(body.replaceAll("\\b(Math|System)\\.\\w+\\(", "("));
        while (calls.find()) {
            names.add(calls.group(1));
        }
        names.removeAll(NO_CALLS);
        return names;
    }

    private static void depths() {
        for (String name : publicNames()) {
            Check.holds("the text has " + name, CALLED.containsKey(name));
        }
        for (Map.Entry<String, Set<String>> method : CALLED.entrySet()) {
            for (String called : method.getValue()) {
                Check.holds(method.getKey() + " calls a method of the class: " + called, CALLED.containsKey(called));
            }
            int depth = depthOf(method.getKey(), 1);
            Check.holds("rule 11: calls go " + depth + " deep in " + method.getKey(), depth <= DEEPEST);
        }
    }

    /** How many calls stand open at most, this one too; a recursion is seen by its depth. */
    private static int depthOf(String name, int open) {
        if (DEPTHS.containsKey(name) || open > CALLED.size()) {
            return DEPTHS.getOrDefault(name, open);
        }
        int deepest = 0;
        for (String called : CALLED.getOrDefault(name, Set.of())) {
            deepest = Math.max(deepest, depthOf(called, open + 1));
        }
        DEPTHS.put(name, deepest + 1);
        return deepest + 1;
    }
}
