/**
 * Every call with arguments from far out and from the edges: none throws, what is refused changes
 * nothing, and an answer is either a refusal of the document or far above all of them.
 */
public final class RefusalTest {
    private static final int[] ARGUMENTS = {
        Integer.MIN_VALUE, Integer.MIN_VALUE + 1, -1000000001, -100, -99, -10, -9, -4, -3, -1, 0, 1, 2, 3, 4, 5, 9, 10, 12, 13, 16, 17,
        18, 20, 24, 25, 60, 61, 99, 100, 101, 65536, 1 << 30, Integer.MAX_VALUE - 1, Integer.MAX_VALUE
    };
    private static final int CALLS = 26;
    /** So that an object, with what makes and what looks at it, comes to no more than 512 calls. */
    private static final int MOST_ASKED = 300;

    public static void main(String[] args) {
        for (int call = 0; call < CALLS; call++) {
            for (int kind = 0; kind < 5; kind++) {
                tryAll(call, kind);
            }
        }
        Check.end();
    }

    private static LiftedSystems made(int kind) {
        LiftedSystems x = new LiftedSystems();
        switch (kind) {
            case 0: break;
            case 1: x.size(1); x.put(0, 0, 0); x.side(0, 4); x.keep(0); break;
            case 2: x.size(3); x.drift(12); x.keep(1); x.drift(12); x.drift(12); break;
            case 3: Tables.fill(x, Tables.row(1, 2, 3, 4, 5), Tables.row(2, 4, 6, 8, 10), Tables.row(0, 0, 1, 1, 3), Tables.row(0, 0, 0, 0, 0)); break;
            default: Tables.fill(x, Tables.row(9, 9, 9, 9, 99), Tables.row(9, -9, 9, -9, -99), Tables.row(9, 9, -9, -9, -99), Tables.row(9, -9, -9, 9, -99));
        }
        if (kind != 1) {
            for (int e = 0; e < 20; e++) {
                x.write(e % x.told(0), 5 * e, e);
            }
        }
        return x;
    }

    private static int arity(int call) {
        int[] arities = {1, 2, 3, 2, 1, 2, 2, 2, 3, 1, 1, 1, 1, 3, 2, 2, 3, 0, 1, 1, 1, 3, 0, 1, 1, 1};
        return arities[call];
    }

    private static void tryAll(int call, int kind) {
        int arity = arity(call);
        String before = Tables.picture(made(kind));
        LiftedSystems x = made(kind);
        int asked = 0;
        for (int a = 0; a < (arity > 0 ? ARGUMENTS.length : 1); a++) {
            for (int b = 0; b < (arity > 1 ? ARGUMENTS.length : 1); b++) {
                for (int c = 0; c < (arity > 2 ? ARGUMENTS.length : 1); c++) {
                    long answer = ask(x, call, ARGUMENTS[a], ARGUMENTS[b], ARGUMENTS[c]);
                    boolean refused = answer <= LiftedSystems.UNKNOWN && answer >= LiftedSystems.FULL;
                    // Bits of doubles below 0 are numbers below 0.
                    Check.holds("call " + call + " answers " + answer, refused || answer >= -1 || call == 9 && answer < LiftedSystems.FULL);
                    asked++;
                    if (!refused && call > 11) {
                        x = made(kind);
                        asked = 0;
                    } else if (asked == MOST_ASKED) {
                        changedNothing(call, before, x);
                        x = made(kind);
                        asked = 0;
                    }
                }
            }
        }
        changedNothing(call, before, x);
    }

    private static void changedNothing(int call, String before, LiftedSystems x) {
        Check.holds("call " + call + ": what is refused or only asked changes nothing", before.equals(Tables.picture(x)));
    }

    private static long ask(LiftedSystems x, int call, int a, int b, int c) {
        switch (call) {
            case 0: return x.told(a);
            case 1: return x.at(a, b);
            case 2: return x.cleared(a, b, c);
            case 3: return x.solution(a, b);
            case 4: return x.nothing(a);
            case 5: return x.back(a, b);
            case 6: return x.digit(a, b);
            case 7: return x.rest(a, b);
            case 8: return x.guess(a, b, c);
            case 9: return x.near(a);
            case 10: return x.shortly(a);
            case 11: return x.cut(a);
            case 12: return x.size(a);
            case 13: return x.put(a, b, c);
            case 14: return x.side(a, b);
            case 15: return x.swap(a, b);
            case 16: return x.mix(a, b, c);
            case 17: return x.turn();
            case 18: return x.prime(a);
            case 19: return x.drift(a);
            case 20: return x.undo(a);
            case 21: return x.write(a, b, c);
            case 22: return x.tear();
            case 23: return x.seed(a);
            case 24: return x.keep(a);
            default: return x.goBack(a);
        }
    }
}
