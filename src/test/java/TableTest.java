/** Promises 1 to 6: a new object, told, at, cleared, solution, nothing. */
public final class TableTest {
    private static final int P = LiftedSystems.PLUS;
    private static final int NONE = LiftedSystems.NONE;
    private static final int UNKNOWN = LiftedSystems.UNKNOWN;
    private static final int OUTSIDE = LiftedSystems.OUTSIDE;

    public static void main(String[] args) {
        newObject();
        toldOfOneSolution();
        toldOfNoneAndMany();
        signs();
        toldOutside();
        at();
        clearedWithFractions();
        clearedRefusals();
        solutions();
        nothing();
        nothingByLeastNumber();
        greatestNumbers();
        Check.end();
    }

    private static void due(String call, long got, long want) {
        Check.due(call, got, want);
    }

    private static void newObject() {
        LiftedSystems x = new LiftedSystems();
        int[] told = {2, 7, P + 1, 2, 2, 1, 3, 0, 0, 0, 2, 1, 1, 1, 0, 0, NONE, 0};
        for (int what = 0; what < told.length; what++) {
            due("new: told(" + what + ")", x.told(what), told[what]);
        }
        int[][] at = {{101, 100, 100}, {100, 101, 100}};
        for (int i = 0; i < 2; i++) {
            for (int j = 0; j < 3; j++) {
                due("new: at(" + i + ", " + j + ")", x.at(i, j), at[i][j]);
            }
        }
        due("new: undo(1)", x.undo(1), LiftedSystems.NOT);
        due("new: goBack(0)", x.goBack(0), LiftedSystems.NOT);
        due("new: goBack(1)", x.goBack(1), LiftedSystems.NOT);
        due("new: tear()", x.tear(), 0);
        due("new: seed(5)", x.seed(5), 0);
    }

    private static void toldOfOneSolution() {
        // 2 x + 4 y = 6, 3 x - y = 2: determinant -14, x and y are 1.
        LiftedSystems x = Tables.of(Tables.row(2, 4, 6), Tables.row(3, -1, 2));
        due("told(2)", x.told(2), P - 14);
        due("told(3)", x.told(3), 2);
        due("told(4)", x.told(4), 2);
        due("told(5)", x.told(5), 1);
        due("told(6)", x.told(6), 3);
        due("told(7)", x.told(7), 0);
        due("told(8): 7 divides -14", x.told(8), 1);
        due("told(9): 2 and 7", x.told(9), 2);
        due("told(10)", x.told(10), 1);
        // By 7: rows 2 4 | 6 and 3 6 | 2: the second is 5 times the first (10 20 30 are 3 6 2).
        due("told(11)", x.told(11), 7);
        due("told(12)", x.told(12), NONE);
        due("told(13)", x.told(13), NONE);
        due("told(14)", x.told(14), NONE);
        x.side(1, 3);
        due("told(11) of none", x.told(11), 0);
        x.prime(1);
        due("told(1)", x.told(1), 3);
        due("told(8) by 3", x.told(8), 0);
        due("told(10) by 3", x.told(10), 2);
        due("told(11) by 3", x.told(11), 1);
        // 2 times (4 and 16 and 36) times (9 and 1 and 9) is 2128; 3 to the 6 is 729, to the 7 is 2187.
        due("told(12) by 3", x.told(12), 7);
    }

    private static void toldOfNoneAndMany() {
        LiftedSystems x = Tables.of(Tables.row(0, 2, 4, 6), Tables.row(0, 3, 6, 9), Tables.row(0, 0, 0, 0));
        due("many: told(2)", x.told(2), P);
        due("many: told(3)", x.told(3), 1);
        due("many: told(4)", x.told(4), 1);
        due("many: told(5)", x.told(5), 2);
        due("many: told(6): column 1 alone leads", x.told(6), 2);
        due("many: told(7)", x.told(7), 0);
        due("many: told(8)", x.told(8), 1);
        due("many: told(9)", x.told(9), 25);
        due("many: told(10)", x.told(10), 1);
        due("many: told(11)", x.told(11), 49);
        x.prime(1);
        due("many: told(10) by 3", x.told(10), 1);
        due("many: told(11) by 3", x.told(11), 9);
        x.side(2, 1);
        due("none: told(4)", x.told(4), 2);
        due("none: told(5)", x.told(5), 0);
        due("none: told(11)", x.told(11), 0);
        x.side(2, 3);
        due("none, but 3 ways leave over what they shall: told(5)", x.told(5), 0);
        due("none, but 3 ways leave over what they shall: told(11)", x.told(11), 9);
        LiftedSystems zero = Tables.of(Tables.row(0, 0, 0, 0, 0), Tables.row(0, 0, 0, 0, 0), Tables.row(0, 0, 0, 0, 0),
            Tables.row(0, 0, 0, 0, 0));
        zero.prime(24);
        due("zeros: told(3)", zero.told(3), 0);
        due("zeros: told(4)", zero.told(4), 0);
        due("zeros: told(5)", zero.told(5), 2);
        due("zeros: told(6)", zero.told(6), 0);
        due("zeros: told(7)", zero.told(7), 0);
        due("zeros: told(10)", zero.told(10), 0);
        due("zeros: told(11): 97 to the 4", zero.told(11), 88529281);
        zero.side(3, 97);
        due("zeros, 97: told(4)", zero.told(4), 1);
        due("zeros, 97: told(5)", zero.told(5), 0);
        due("zeros, 97: told(11)", zero.told(11), 88529281);
        due("zeros, 97: cleared(0, 0, 0)", zero.cleared(0, 0, 0), UNKNOWN);
    }

    private static void signs() {
        LiftedSystems x = Tables.of(Tables.row(0, 2, 6), Tables.row(3, 5, 9));
        due("rows changed about once: told(2)", x.told(2), P - 6);
        due("solution(0, 0)", x.solution(0, 0), P - 2);
        due("solution(1, 0)", x.solution(1, 0), P + 3);
        LiftedSystems y = Tables.of(Tables.row(0, 2, 0, 0), Tables.row(0, 0, 3, 0), Tables.row(5, 0, 0, 0));
        due("changed about twice: told(2)", y.told(2), P + 30);
        y.swap(0, 1);
        due("changed about once: told(2)", y.told(2), P - 30);
    }

    private static void toldOutside() {
        LiftedSystems x = new LiftedSystems();
        int[] whats = {-1, 18, Integer.MIN_VALUE, Integer.MAX_VALUE};
        for (int what : whats) {
            due("told(" + what + ")", x.told(what), OUTSIDE);
        }
    }

    private static void at() {
        LiftedSystems x = Tables.of(Tables.row(-9, 2, -99), Tables.row(3, 9, 99));
        due("at(0, 0)", x.at(0, 0), 91);
        due("at(0, 1)", x.at(0, 1), 102);
        due("at(0, 2)", x.at(0, 2), 1);
        due("at(1, 0)", x.at(1, 0), 103);
        due("at(1, 1)", x.at(1, 1), 109);
        due("at(1, 2)", x.at(1, 2), 199);
        due("at(0, 3)", x.at(0, 3), UNKNOWN);
        due("at(2, 0)", x.at(2, 0), UNKNOWN);
        due("at(-1, 0)", x.at(-1, 0), UNKNOWN);
        due("at(0, -1)", x.at(0, -1), UNKNOWN);
        due("at(0, 4)", x.at(0, 4), UNKNOWN);
        x.size(4);
        due("size 4: at(3, 4)", x.at(3, 4), 100);
        due("size 4: at(3, 3)", x.at(3, 3), 101);
        due("size 4: at(3, 5)", x.at(3, 5), UNKNOWN);
        due("size 4: at(4, 0)", x.at(4, 0), UNKNOWN);
    }

    private static void clearedWithFractions() {
        // Rows 2 -1 0 and 0 0 3 and their sum: cleared, 1 -1/2 0 and 0 0 1.
        LiftedSystems x = Tables.of(Tables.row(2, -1, 0, 5), Tables.row(0, 0, 3, 7), Tables.row(2, -1, 3, 12));
        due("told(6)", x.told(6), 5);
        due("told(7)", x.told(7), 1);
        int[][] above = {{1, -1, 0}, {0, 0, 1}};
        int[][] below = {{1, 2, 1}, {1, 1, 1}};
        for (int r = 0; r < 2; r++) {
            for (int j = 0; j < 3; j++) {
                due("cleared(" + r + ", " + j + ", 0)", x.cleared(r, j, 0), P + above[r][j]);
                due("cleared(" + r + ", " + j + ", 1)", x.cleared(r, j, 1), below[r][j]);
            }
        }
        // Columns 2 and 3 by the first two: 0 4 0 2 | 6 0 9 3 | 6 4 9 5 | 0 0 0 0 has rank 2.
        LiftedSystems y = Tables.of(Tables.row(0, 4, 0, 2, 0), Tables.row(6, 0, 9, 3, 0), Tables.row(6, 4, 9, 5, 0),
            Tables.row(0, 0, 0, 0, 0));
        due("y: told(6)", y.told(6), 3);
        due("y: told(7)", y.told(7), 2);
        due("y: cleared(0, 2, 0)", y.cleared(0, 2, 0), P + 3);
        due("y: cleared(0, 2, 1)", y.cleared(0, 2, 1), 2);
        due("y: cleared(0, 3, 0)", y.cleared(0, 3, 0), P + 1);
        due("y: cleared(0, 3, 1)", y.cleared(0, 3, 1), 2);
        due("y: cleared(1, 0, 0)", y.cleared(1, 0, 0), P);
        due("y: cleared(1, 1, 0)", y.cleared(1, 1, 0), P + 1);
        due("y: cleared(1, 2, 1)", y.cleared(1, 2, 1), 1);
        due("y: cleared(1, 3, 1)", y.cleared(1, 3, 1), 2);
        y.put(2, 2, 8);
        due("y: full of rank 3: told(6)", y.told(6), 7);
        due("y: told(7)", y.told(7), 2);
    }

    private static void clearedRefusals() {
        LiftedSystems x = Tables.of(Tables.row(1, 2, 0), Tables.row(2, 4, 1));
        due("cleared(0, 1, 0)", x.cleared(0, 1, 0), P + 2);
        due("rank 1: cleared(1, 0, 0)", x.cleared(1, 0, 0), UNKNOWN);
        due("cleared(-1, 0, 0)", x.cleared(-1, 0, 0), UNKNOWN);
        due("cleared(0, 2, 0): the side is no column", x.cleared(0, 2, 0), UNKNOWN);
        due("cleared(0, -1, 0)", x.cleared(0, -1, 0), UNKNOWN);
        due("cleared(0, 0, 2)", x.cleared(0, 0, 2), OUTSIDE);
        due("cleared(0, 0, -1)", x.cleared(0, 0, -1), OUTSIDE);
        due("cleared(1, 0, 2): UNKNOWN goes first", x.cleared(1, 0, 2), UNKNOWN);
        due("cleared(0, 2, 2): UNKNOWN goes first", x.cleared(0, 2, 2), UNKNOWN);
    }

    private static void solutions() {
        // 2 x + y = 3, 4 x - 3 y = -1: x 4/5, y 7/5.
        LiftedSystems x = Tables.of(Tables.row(2, 1, 3), Tables.row(4, -3, -1));
        due("solution(0, 0)", x.solution(0, 0), P + 4);
        due("solution(0, 1)", x.solution(0, 1), 5);
        due("solution(1, 0)", x.solution(1, 0), P + 7);
        due("solution(1, 1)", x.solution(1, 1), 5);
        x.side(0, -3);
        // x -1, y -1.
        due("solution(0, 0) below 0", x.solution(0, 0), P - 1);
        due("solution(1, 0) below 0", x.solution(1, 0), P - 1);
        due("solution(1, 1)", x.solution(1, 1), 1);
        // A determinant below 0 and a solution below 0: -2 x = 3.
        LiftedSystems one = Tables.of(new int[][] {{-2, 3}});
        due("one: solution(0, 0)", one.solution(0, 0), P - 3);
        due("one: solution(0, 1)", one.solution(0, 1), 2);
        one.side(0, 0);
        due("0 is 0 by 1: solution(0, 0)", one.solution(0, 0), P);
        due("0 is 0 by 1: solution(0, 1)", one.solution(0, 1), 1);
        // Many: column 0 does not lead, nor does column 2: these are 0.
        LiftedSystems many = Tables.of(Tables.row(0, 4, 6, 9), Tables.row(0, 8, 12, 18), Tables.row(0, 0, 0, 0));
        due("many: solution(0, 0)", many.solution(0, 0), P);
        due("many: solution(0, 1)", many.solution(0, 1), 1);
        due("many: solution(1, 0)", many.solution(1, 0), P + 9);
        due("many: solution(1, 1)", many.solution(1, 1), 4);
        due("many: solution(2, 0)", many.solution(2, 0), P);
        due("many: solution(2, 1)", many.solution(2, 1), 1);
        many.side(2, 1);
        due("none: solution(1, 0)", many.solution(1, 0), NONE);
        due("none: solution(1, 1)", many.solution(1, 1), NONE);
        due("none: solution(3, 0)", many.solution(3, 0), UNKNOWN);
        due("none: solution(0, 2)", many.solution(0, 2), OUTSIDE);
        due("none: solution(-1, 2)", many.solution(-1, 2), UNKNOWN);
        due("none: solution(0, -1)", many.solution(0, -1), OUTSIDE);
    }

    private static void nothing() {
        LiftedSystems x = Tables.of(Tables.row(1, 2, 5), Tables.row(2, 4, 9));
        due("none, yet nothing(0)", x.nothing(0), P - 2);
        due("none, yet nothing(1)", x.nothing(1), P + 1);
        due("nothing(2)", x.nothing(2), UNKNOWN);
        due("nothing(-1)", x.nothing(-1), UNKNOWN);
        x.put(1, 1, 5);
        due("rank 2: nothing(0)", x.nothing(0), NONE);
        due("rank 2: nothing(2)", x.nothing(2), UNKNOWN);
        // The first column that does not lead is 0; 1 leads, 2 does not.
        LiftedSystems y = Tables.of(Tables.row(0, 3, 5, 0), Tables.row(0, 0, 0, 0), Tables.row(0, 0, 0, 0));
        due("y: nothing(0)", y.nothing(0), P + 1);
        due("y: nothing(1)", y.nothing(1), P);
        due("y: nothing(2)", y.nothing(2), P);
    }

    private static void nothingByLeastNumber() {
        // Column 2 is 3/4 of column 0 and -5/6 of column 1: times 12.
        LiftedSystems x = Tables.of(Tables.row(4, 0, 3, 1), Tables.row(0, 6, -5, 1), Tables.row(0, 0, 0, 1));
        due("nothing(0)", x.nothing(0), P - 9);
        due("nothing(1)", x.nothing(1), P + 10);
        due("nothing(2)", x.nothing(2), P + 12);
        // Behind the first that does not lead, others are 0, leading or not.
        LiftedSystems y = Tables.of(Tables.row(2, 3, 0, 7, 0), Tables.row(0, 0, 5, 1, 0), Tables.row(0, 0, 0, 0, 0),
            Tables.row(0, 0, 0, 0, 0));
        due("y: told(6)", y.told(6), 5);
        due("y: nothing(0)", y.nothing(0), P - 3);
        due("y: nothing(1)", y.nothing(1), P + 2);
        due("y: nothing(2)", y.nothing(2), P);
        due("y: nothing(3)", y.nothing(3), P);
    }

    private static void greatestNumbers() {
        LiftedSystems x = Tables.of(Tables.row(9, 9, 9, 9, 99), Tables.row(9, -9, 9, -9, -99), Tables.row(9, 9, -9, -9, -99),
            Tables.row(9, -9, -9, 9, -99));
        due("told(2): the greatest", x.told(2), P + 16 * 6561);
        due("solution(0, 0)", x.solution(0, 0), P - 11);
        due("solution(0, 1)", x.solution(0, 1), 2);
        due("solution(3, 0)", x.solution(3, 0), P + 11);
        x.swap(0, 1);
        due("told(2): the least", x.told(2), P - 16 * 6561);
        due("solution(0, 0)", x.solution(0, 0), P - 11);
        x.put(0, 0, 8);
        x.prime(0);
        due("told(2)", x.told(2), P - 102060);
        due("told(8): 2 divides 102060", x.told(8), 1);
        due("told(9): 2, 3, 5 and 7", x.told(9), 4);
        x.prime(4);
        // 2 times 10108 times 10125 to the 3 is 2.1e16; 11 to the 15 is 4.2e15, to the 16 is 4.6e16.
        due("told(12) by 11", x.told(12), 16);
    }
}
