import java.lang.reflect.Method;
import java.lang.reflect.Modifier;
import java.util.ArrayList;
import java.util.List;
import java.util.function.ToLongFunction;

/** The first terms: numbers from 0 on, SETS, FRACTIONS, REFUSALS and their order; what is refused changes nothing. */
final class RefusalSentences extends Sentences {
    private static final long G = 4000000000L;

    private record Call(String name, ToLongFunction<LiftedSystems> call, int want) {
    }

    private RefusalSentences() {
    }

    static void test() {
        capitals();
        fromZero();
        sets();
        none();
        order();
        farBelow();
        fractions();
        plus();
        changesNothing();
        manyCalls();
    }

    private static void capitals() {
        says(TERMS, "Words in capitals are told where they come first. All numbers are whole, unless it's said.");
        for (Method method : LiftedSystems.class.getDeclaredMethods()) {
            boolean isWhole = method.getReturnType() == int.class || method.getReturnType() == long.class;
            holds("the answer is whole: " + method, isWhole || !Modifier.isPublic(method.getModifiers()));
        }
    }

    private static void fromZero() {
        says(TERMS, "What has a number has it from 0 on.");
        LiftedSystems x = of(row(3, 4, 5), row(6, 8, 9));
        due("row 0, column 0", x.at(0, 0), 103);
        due("row 0, column 1", x.at(0, 1), 104);
        due("row 1, column 0", x.at(1, 0), 106);
        due("the first cleared row", x.cleared(0, 1, 0), P + 4);
        due("prime 0", x.prime(0), 2);
        due("image 0", x.keep(0), 1);
        due("image -1", x.keep(-1), UNKNOWN);
        x.size(1);
        due("digit 0", x.digit(0, 0), 0);
        x.write(0, 0, 1);
        due("entry 0", x.told(16), 0);
    }

    private static void sets() {
        says(TERMS, "A SET is a whole number, bit k for k.");
        for (int set = 0; set < 16; set++) {
            LiftedSystems x = new LiftedSystems();
            x.size(4);
            for (int k = 0; k < 4; k++) {
                x.put(k, k, set >> k & 1);
            }
            due("LEADING", x.told(6), set);
        }
    }

    private static void none() {
        says(TERMS, "NONE is -1.");
        due("NONE", LiftedSystems.NONE, -1);
        due("solution", one(0, 1).solution(0, 0), -1);
    }

    private static void order() {
        says(TERMS, "REFUSALS, of several the first in this order: UNKNOWN (a ROW, COLUMN, IMAGE that there is not; one twice, where two ROWS "
            + "are asked), OUTSIDE (another number out of its bounds), NOT (not now, as told), FULL.");
        for (Call call : together()) {
            due(call.name, call.call.applyAsLong(bad()), call.want);
        }
    }

    /** Three rows and columns by 7, which is BAD; the book is full, image 1 is not kept, five deeds. */
    private static LiftedSystems bad() {
        LiftedSystems x = of(row(7, 0, 0, 90), row(9, 1, 0, 99), row(0, 0, 1, 5));
        furnish(x);
        return x;
    }

    /** The same by 7, which is not BAD. */
    private static LiftedSystems good() {
        LiftedSystems x = of(row(8, 0, 0, 90), row(9, 1, 0, 99), row(0, 0, 1, 5));
        furnish(x);
        return x;
    }

    private static void furnish(LiftedSystems x) {
        x.seed(4711);
        x.keep(0);
        for (int e = 0; e < 20; e++) {
            int digit = x.told(8) == 1 ? e : x.digit(e % 3, 5 * e);
            x.write(e % 3, 5 * e, digit);
        }
        x.put(2, 2, 6);
        x.side(2, -1);
        x.swap(1, 2);
        x.swap(2, 1);
        x.put(2, 2, 1);
    }

    private static void add(List<Call> all, String name, ToLongFunction<LiftedSystems> call, int want) {
        all.add(new Call(name, call, want));
    }

    /** Calls with several refusals at once, on what bad() makes. */
    private static List<Call> together() {
        List<Call> all = new ArrayList<>();
        add(all, "cleared: row, what", x -> x.cleared(3, 0, 2), UNKNOWN);
        add(all, "cleared: column, what", x -> x.cleared(0, 3, 2), UNKNOWN);
        add(all, "solution: column, what", x -> x.solution(3, 2), UNKNOWN);
        add(all, "back: row, BAD", x -> x.back(3, 0), UNKNOWN);
        add(all, "back: column, BAD", x -> x.back(0, 3), UNKNOWN);
        add(all, "digit: X, k, BAD", x -> x.digit(3, 100), UNKNOWN);
        add(all, "digit: X, BAD", x -> x.digit(-1, 0), UNKNOWN);
        add(all, "digit: k, BAD", x -> x.digit(0, 100), OUTSIDE);
        add(all, "digit: k below, BAD", x -> x.digit(0, -1), OUTSIDE);
        add(all, "digit: BAD alone", x -> x.digit(0, 99), NOT);
        add(all, "rest: row, k, BAD", x -> x.rest(3, 101), UNKNOWN);
        add(all, "rest: row, BAD", x -> x.rest(-1, 0), UNKNOWN);
        add(all, "rest: k, BAD", x -> x.rest(0, 101), OUTSIDE);
        add(all, "rest: k below, BAD", x -> x.rest(0, -1), OUTSIDE);
        add(all, "rest: BAD alone", x -> x.rest(0, 100), NOT);
        add(all, "guess: X, k, what, BAD", x -> x.guess(3, 0, 2), UNKNOWN);
        add(all, "guess: X, BAD", x -> x.guess(-1, 1, 0), UNKNOWN);
        add(all, "guess: k, BAD", x -> x.guess(0, 0, 0), OUTSIDE);
        add(all, "guess: M, BAD", x -> x.guess(0, 22, 0), OUTSIDE);
        add(all, "guess: what, BAD", x -> x.guess(0, 1, 2), OUTSIDE);
        add(all, "guess: BAD alone", x -> x.guess(0, 21, 0), NOT);
        add(all, "put: row, v", x -> x.put(3, 0, 10), UNKNOWN);
        add(all, "put: column, v", x -> x.put(0, 3, -10), UNKNOWN);
        add(all, "side: row, v", x -> x.side(3, 100), UNKNOWN);
        add(all, "swap: a row that there is not", x -> x.swap(0, 3), UNKNOWN);
        add(all, "swap: one twice", x -> x.swap(2, 2), UNKNOWN);
        add(all, "mix: one twice, t", x -> x.mix(1, 1, 4), UNKNOWN);
        add(all, "mix: one twice, would be FULL", x -> x.mix(1, 1, 3), UNKNOWN);
        add(all, "mix: row, t", x -> x.mix(0, 3, 4), UNKNOWN);
        add(all, "mix: row ahead, t", x -> x.mix(-1, 0, -4), UNKNOWN);
        add(all, "mix: t, would be FULL", x -> x.mix(0, 1, 4), OUTSIDE);
        add(all, "mix: FULL alone", x -> x.mix(0, 1, 3), FULL);
        add(all, "undo: n, not so many", x -> x.undo(17), OUTSIDE);
        add(all, "undo: not so many alone", x -> x.undo(16), NOT);
        add(all, "write: X, k, FULL", x -> x.write(3, 100, 0), UNKNOWN);
        add(all, "write: X, FULL", x -> x.write(-1, 0, 0), UNKNOWN);
        add(all, "write: k, FULL", x -> x.write(0, 100, 0), OUTSIDE);
        add(all, "write: k below, FULL", x -> x.write(0, -1, 0), OUTSIDE);
        add(all, "write: FULL alone", x -> x.write(0, 99, 0), FULL);
        add(all, "keep: no image", x -> x.keep(2), UNKNOWN);
        add(all, "goBack: no image", x -> x.goBack(2), UNKNOWN);
        add(all, "goBack: not kept", x -> x.goBack(1), NOT);
        return all;
    }

    private static void farBelow() {
        says(TERMS, "They are far below all that is counted: -1000000001 and on.");
        due("UNKNOWN", UNKNOWN, -1000000001);
        due("OUTSIDE", OUTSIDE, -1000000002);
        due("NOT", NOT, -1000000003);
        due("FULL", FULL, -1000000004);
        LiftedSystems least = of(row(-9, -9, -9, -9, 99), row(9, -9, 9, -9, -99), row(9, 9, -9, -9, -99), row(9, -9, -9, 9, -99));
        holds("the least determinant", least.told(2) > 0);
        LiftedSystems far = of(row(-3, -8, -9, 9, -99), row(-5, 9, 9, 9, -99), row(-5, -9, 8, 9, 99), row(-2, 9, -9, 7, 99));
        holds("the least solution", far.solution(0, 0) > 0 && far.cut(0) > 0 && far.guess(0, 21, 0) > 0);
    }

    private static void fractions() {
        says(TERMS, "FRACTIONS have an ABOVE and a BELOW, in lowest terms, BELOW 1 at least (0 is 0 by 1).");
        dueFraction(6, 9, 3, 2);
        dueFraction(6, -9, -3, 2);
        dueFraction(-6, 9, -3, 2);
        dueFraction(-6, -9, 3, 2);
        dueFraction(9, 99, 11, 1);
        dueFraction(-9, 98, -98, 9);
        dueFraction(9, 0, 0, 1);
        dueFraction(-9, 0, 0, 1);
        dueFraction(9, 1, 1, 9);
        LiftedSystems x = of(row(-4, 6, 0), row(0, 0, 0));
        due("cleared: above", x.cleared(0, 1, 0), P - 3);
        due("cleared: below", x.cleared(0, 1, 1), 2);
        x.put(0, 1, 0);
        due("cleared: 0", x.cleared(0, 1, 0), P);
        due("cleared: 0, below", x.cleared(0, 1, 1), 1);
    }

    private static void dueFraction(int a, int b, int above, int below) {
        LiftedSystems x = one(a, b);
        due(b + " by " + a + ": above", x.solution(0, 0), P + above);
        due(b + " by " + a + ": below", x.solution(0, 1), below);
        int most = 21;
        if (x.told(8) == 0) {
            due(b + " by " + a + ": u", x.guess(0, most, 0), G + above);
            due(b + " by " + a + ": v", x.guess(0, most, 1), below);
        }
    }

    private static void plus() {
        says(TERMS, "PLUS is 1000000000.");
        due("PLUS", LiftedSystems.PLUS, 1000000000);
        due("the determinant and PLUS", new LiftedSystems().told(2), 1000000001);
    }

    private static void changesNothing() {
        says(TERMS, "What is refused changes nothing.");
        String good = traced(good());
        String bad = traced(bad());
        for (Call call : refused()) {
            LiftedSystems x = good();
            due(call.name, call.call.applyAsLong(x), call.want);
            holds(call.name + " changes nothing", good.equals(traced(x)));
        }
        for (Call call : together()) {
            LiftedSystems x = bad();
            due(call.name, call.call.applyAsLong(x), call.want);
            holds(call.name + " changes nothing", bad.equals(traced(x)));
        }
    }

    /** All that can be seen of an object: as it is, behind each undoing, and of its images and draws. */
    private static String traced(LiftedSystems x) {
        StringBuilder all = new StringBuilder(Tables.picture(x));
        for (int time = 0; time < 16 && x.undo(1) >= 0; time++) {
            all.append(" undone ").append(Tables.picture(x));
        }
        for (int image = 0; image <= 1; image++) {
            all.append(" image ").append(x.goBack(image)).append(' ').append(Tables.picture(x));
        }
        return all.append(" drawn ").append(x.drift(1)).append(' ').append(x.tear()).append(Tables.picture(x)).toString();
    }

    /** Each call's own refusals, on what good() makes. */
    private static List<Call> refused() {
        List<Call> all = new ArrayList<>();
        refusedQuestions(all);
        add(all, "size(0)", x -> x.size(0), OUTSIDE);
        add(all, "size(5)", x -> x.size(5), OUTSIDE);
        add(all, "put(3, 0, 1)", x -> x.put(3, 0, 1), UNKNOWN);
        add(all, "put(0, 3, 1)", x -> x.put(0, 3, 1), UNKNOWN);
        add(all, "put(0, 0, 10)", x -> x.put(0, 0, 10), OUTSIDE);
        add(all, "put(0, 0, -10)", x -> x.put(0, 0, -10), OUTSIDE);
        add(all, "side(3, 1)", x -> x.side(3, 1), UNKNOWN);
        add(all, "side(0, 100)", x -> x.side(0, 100), OUTSIDE);
        add(all, "side(0, -100)", x -> x.side(0, -100), OUTSIDE);
        add(all, "swap(1, 1)", x -> x.swap(1, 1), UNKNOWN);
        add(all, "swap(0, 3)", x -> x.swap(0, 3), UNKNOWN);
        add(all, "swap(-1, 0)", x -> x.swap(-1, 0), UNKNOWN);
        add(all, "mix(1, 1, 0)", x -> x.mix(1, 1, 0), UNKNOWN);
        add(all, "mix(2, 3, 1)", x -> x.mix(2, 3, 1), UNKNOWN);
        add(all, "mix(2, 1, 4)", x -> x.mix(2, 1, 4), OUTSIDE);
        add(all, "mix(2, 1, -4)", x -> x.mix(2, 1, -4), OUTSIDE);
        add(all, "mix by the first number", x -> x.mix(1, 0, 1), FULL);
        add(all, "mix by the side alone", x -> x.mix(1, 2, -1), FULL);
        add(all, "prime(-1)", x -> x.prime(-1), OUTSIDE);
        add(all, "prime(25)", x -> x.prime(25), OUTSIDE);
        add(all, "drift(0)", x -> x.drift(0), OUTSIDE);
        add(all, "drift(13)", x -> x.drift(13), OUTSIDE);
        add(all, "undo(0)", x -> x.undo(0), OUTSIDE);
        add(all, "undo(17)", x -> x.undo(17), OUTSIDE);
        add(all, "undo(6)", x -> x.undo(6), NOT);
        add(all, "write(3, 0, 0)", x -> x.write(3, 0, 0), UNKNOWN);
        add(all, "write(0, 100, 0)", x -> x.write(0, 100, 0), OUTSIDE);
        add(all, "write(0, 0, 0)", x -> x.write(0, 0, 0), FULL);
        add(all, "seed(-1)", x -> x.seed(-1), OUTSIDE);
        add(all, "keep(2)", x -> x.keep(2), UNKNOWN);
        add(all, "keep(-1)", x -> x.keep(-1), UNKNOWN);
        add(all, "goBack(2)", x -> x.goBack(2), UNKNOWN);
        add(all, "goBack(-1)", x -> x.goBack(-1), UNKNOWN);
        add(all, "goBack(1)", x -> x.goBack(1), NOT);
        return all;
    }

    private static void refusedQuestions(List<Call> all) {
        add(all, "told(-1)", x -> x.told(-1), OUTSIDE);
        add(all, "told(18)", x -> x.told(18), OUTSIDE);
        add(all, "at(3, 0)", x -> x.at(3, 0), UNKNOWN);
        add(all, "at(0, 4)", x -> x.at(0, 4), UNKNOWN);
        add(all, "cleared(3, 0, 0)", x -> x.cleared(3, 0, 0), UNKNOWN);
        add(all, "cleared(0, 3, 0)", x -> x.cleared(0, 3, 0), UNKNOWN);
        add(all, "cleared(0, 0, 2)", x -> x.cleared(0, 0, 2), OUTSIDE);
        add(all, "solution(3, 0)", x -> x.solution(3, 0), UNKNOWN);
        add(all, "solution(0, 2)", x -> x.solution(0, 2), OUTSIDE);
        add(all, "nothing(3)", x -> x.nothing(3), UNKNOWN);
        add(all, "back(3, 0)", x -> x.back(3, 0), UNKNOWN);
        add(all, "digit(3, 0)", x -> x.digit(3, 0), UNKNOWN);
        add(all, "digit(0, 100)", x -> x.digit(0, 100), OUTSIDE);
        add(all, "rest(3, 0)", x -> x.rest(3, 0), UNKNOWN);
        add(all, "rest(0, 101)", x -> x.rest(0, 101), OUTSIDE);
        add(all, "guess(3, 1, 0)", x -> x.guess(3, 1, 0), UNKNOWN);
        add(all, "guess(0, 22, 0)", x -> x.guess(0, 22, 0), OUTSIDE);
        add(all, "near(3)", x -> x.near(3), UNKNOWN);
        add(all, "shortly(3)", x -> x.shortly(3), UNKNOWN);
        add(all, "cut(3)", x -> x.cut(3), UNKNOWN);
    }

    private static void manyCalls() {
        says(TERMS, "An object is used for at most 512 calls after it has been made; what later calls answer is free.");
        LiftedSystems x = new LiftedSystems();
        for (int call = 1; call <= 511; call++) {
            due("call " + call, x.side(0, call % 100), 100 + (call == 1 ? 0 : (call - 1) % 100));
        }
        due("call 512", x.told(17), 16);
        LiftedSystems y = one(7, 1);
        for (int call = 5; call <= 512; call++) {
            due("call " + call, y.told(8), 1);
        }
    }
}
