/** Promises 14 to 22: size, put, side, swap, mix, turn, prime, drift, undo. */
public final class DeedsTest {
    private static final int P = LiftedSystems.PLUS;
    private static final int UNKNOWN = LiftedSystems.UNKNOWN;
    private static final int OUTSIDE = LiftedSystems.OUTSIDE;
    private static final int NOT = LiftedSystems.NOT;
    private static final int FULL = LiftedSystems.FULL;

    public static void main(String[] args) {
        size();
        put();
        side();
        swap();
        mix();
        turn();
        prime();
        drift();
        undo();
        undoOfEachDeed();
        undoKeepsSixteen();
        Check.end();
    }

    private static void due(String call, long got, long want) {
        Check.due(call, got, want);
    }

    private static void dueRows(String when, LiftedSystems x, int[]... rows) {
        due(when + ": told(0)", x.told(0), rows.length);
        for (int i = 0; i < rows.length; i++) {
            for (int j = 0; j <= rows.length; j++) {
                due(when + ": at(" + i + ", " + j + ")", x.at(i, j), rows[i][j] + 100);
            }
        }
    }

    private static void size() {
        LiftedSystems x = Tables.of(Tables.row(5, 6, 7), Tables.row(-1, 2, 3));
        x.prime(10);
        due("size(3)", x.size(3), 2);
        dueRows("size(3)", x, Tables.row(1, 0, 0, 0), Tables.row(0, 1, 0, 0), Tables.row(0, 0, 1, 0));
        due("the prime stays", x.told(1), 31);
        x.put(2, 2, 4);
        due("size(3) again", x.size(3), 3);
        due("it is new", x.at(2, 2), 101);
        due("size(1)", x.size(1), 3);
        dueRows("size(1)", x, Tables.row(1, 0));
        due("size(4)", x.size(4), 1);
        due("size(0)", x.size(0), OUTSIDE);
        due("size(5)", x.size(5), OUTSIDE);
        due("size(-1)", x.size(-1), OUTSIDE);
        due("size stays", x.told(0), 4);
        due("size(2)", x.size(2), 4);
    }

    private static void put() {
        LiftedSystems x = new LiftedSystems();
        due("put(0, 1, -9)", x.put(0, 1, -9), 100);
        due("put(0, 1, 9)", x.put(0, 1, 9), 91);
        due("put(0, 1, 9) again", x.put(0, 1, 9), 109);
        due("put(1, 1, 0)", x.put(1, 1, 0), 101);
        dueRows("put", x, Tables.row(1, 9, 0), Tables.row(0, 0, 0));
        due("put(0, 0, 10)", x.put(0, 0, 10), OUTSIDE);
        due("put(0, 0, -10)", x.put(0, 0, -10), OUTSIDE);
        due("put(0, 2, 1): the side is no column", x.put(0, 2, 1), UNKNOWN);
        due("put(2, 0, 1)", x.put(2, 0, 1), UNKNOWN);
        due("put(-1, 0, 1)", x.put(-1, 0, 1), UNKNOWN);
        due("put(0, -1, 10): UNKNOWN goes first", x.put(0, -1, 10), UNKNOWN);
        dueRows("refused", x, Tables.row(1, 9, 0), Tables.row(0, 0, 0));
        due("refused deeds are none", x.told(17), 4);
    }

    private static void side() {
        LiftedSystems x = new LiftedSystems();
        due("side(1, -99)", x.side(1, -99), 100);
        due("side(1, 99)", x.side(1, 99), 1);
        due("side(1, 99) again", x.side(1, 99), 199);
        due("side(0, 100)", x.side(0, 100), OUTSIDE);
        due("side(0, -100)", x.side(0, -100), OUTSIDE);
        due("side(2, 0)", x.side(2, 0), UNKNOWN);
        due("side(-1, 100): UNKNOWN goes first", x.side(-1, 100), UNKNOWN);
        dueRows("side", x, Tables.row(1, 0, 0), Tables.row(0, 1, 99));
        due("refused deeds are none", x.told(17), 3);
    }

    private static void swap() {
        LiftedSystems x = Tables.of(Tables.row(1, 2, 3, 4), Tables.row(5, 6, 7, 8), Tables.row(9, -1, -2, -3));
        due("swap(0, 2)", x.swap(0, 2), 1);
        dueRows("swap", x, Tables.row(9, -1, -2, -3), Tables.row(5, 6, 7, 8), Tables.row(1, 2, 3, 4));
        due("swap(1, 0)", x.swap(1, 0), 1);
        dueRows("swap", x, Tables.row(5, 6, 7, 8), Tables.row(9, -1, -2, -3), Tables.row(1, 2, 3, 4));
        due("swap(1, 1)", x.swap(1, 1), UNKNOWN);
        due("swap(0, 3)", x.swap(0, 3), UNKNOWN);
        due("swap(3, 0)", x.swap(3, 0), UNKNOWN);
        due("swap(-1, 0)", x.swap(-1, 0), UNKNOWN);
        due("swap(0, -1)", x.swap(0, -1), UNKNOWN);
        dueRows("refused", x, Tables.row(5, 6, 7, 8), Tables.row(9, -1, -2, -3), Tables.row(1, 2, 3, 4));
    }

    private static void mix() {
        LiftedSystems x = Tables.of(Tables.row(1, -2, 40), Tables.row(3, 2, 20));
        due("mix(0, 1, 2)", x.mix(0, 1, 2), 1);
        dueRows("mix", x, Tables.row(7, 2, 80), Tables.row(3, 2, 20));
        due("mix(0, 1, 1): 10 is too much", x.mix(0, 1, 1), FULL);
        due("mix(0, 1, -3)", x.mix(0, 1, -3), 1);
        dueRows("mix", x, Tables.row(-2, -4, 20), Tables.row(3, 2, 20));
        due("mix(1, 0, 0) changes nothing, but is a deed", x.mix(1, 0, 0), 1);
        due("mix(1, 0, 3)", x.mix(1, 0, 3), FULL);
        due("mix(0, 1, 4)", x.mix(0, 1, 4), OUTSIDE);
        due("mix(0, 1, -4)", x.mix(0, 1, -4), OUTSIDE);
        due("mix(0, 0, 1)", x.mix(0, 0, 1), UNKNOWN);
        due("mix(1, 1, 9): UNKNOWN goes first", x.mix(1, 1, 9), UNKNOWN);
        due("mix(2, 0, 1)", x.mix(2, 0, 1), UNKNOWN);
        due("mix(0, 2, 1)", x.mix(0, 2, 1), UNKNOWN);
        due("mix(-1, 0, 1)", x.mix(-1, 0, 1), UNKNOWN);
        due("mix(0, -1, 1)", x.mix(0, -1, 1), UNKNOWN);
        dueRows("refused", x, Tables.row(-2, -4, 20), Tables.row(3, 2, 20));
        // To the bounds, and by the side alone beyond them.
        LiftedSystems y = Tables.of(Tables.row(0, 0, 0), Tables.row(3, -3, 33));
        due("mix(0, 1, 3) to the bounds", y.mix(0, 1, 3), 1);
        dueRows("to the bounds", y, Tables.row(9, -9, 99), Tables.row(3, -3, 33));
        LiftedSystems z = Tables.of(Tables.row(0, 0, 1), Tables.row(3, -3, 33));
        due("mix(0, 1, 3): the side would be 100", z.mix(0, 1, 3), FULL);
        due("mix(0, 1, -3): -98", z.mix(0, 1, -3), 1);
        z.put(1, 0, 0);
        z.side(0, 0);
        z.put(1, 1, 0);
        z.put(1, 0, -1);
        due("mix(0, 1, 1): the first column alone would be -10", z.mix(0, 1, 1), FULL);
        z.put(1, 0, 0);
        z.put(1, 1, -3);
        due("mix(0, 1, -1): the last column alone would be 12", z.mix(0, 1, -1), FULL);
    }

    private static void turn() {
        LiftedSystems x = Tables.of(Tables.row(1, 2, 3, 4), Tables.row(5, 6, 7, 8), Tables.row(9, -1, -2, -3));
        due("turn()", x.turn(), 3);
        dueRows("turn", x, Tables.row(1, 5, 9, 4), Tables.row(2, 6, -1, 8), Tables.row(3, 7, -2, -3));
        LiftedSystems y = Tables.of(Tables.row(0, 0, 3), Tables.row(5, 0, 7));
        due("turn() of rank 1", y.turn(), 1);
        dueRows("turn", y, Tables.row(0, 5, 3), Tables.row(0, 0, 7));
        due("the leading column is another", y.told(6), 2);
        LiftedSystems one = Tables.of(new int[][] {{0, 3}});
        due("turn() of rank 0", one.turn(), 0);
        due("it is a deed", one.told(17), 4);
    }

    private static void prime() {
        LiftedSystems x = new LiftedSystems();
        int[] primes = {2, 3, 5, 7, 11, 13, 17, 19, 23, 29, 31, 37, 41, 43, 47, 53, 59, 61, 67, 71, 73, 79, 83, 89, 97};
        for (int k = 0; k < primes.length; k++) {
            due("prime(" + k + ")", x.prime(k), primes[k]);
            due("told(1)", x.told(1), primes[k]);
        }
        due("prime(25)", x.prime(25), OUTSIDE);
        due("prime(-1)", x.prime(-1), OUTSIDE);
        due("it stays", x.told(1), 97);
    }

    private static void drift() {
        LiftedSystems x = new LiftedSystems();
        // From 0: 12345 (0 by 65536), 1406932606 (21468), 654583775 (9988): i 0, j 0, v 13.
        due("drift(1)", x.drift(1), 2);
        dueRows("drift(1)", x, Tables.row(4, 0, 0), Tables.row(0, 1, 0));
        due("the seed", x.seed(654583775), 654583775);
        // 1449466924 (22117), 229283573 (3498), 1109335178 (16927): i 1, j 0, v 17.
        due("drift(1)", x.drift(1), 2);
        dueRows("drift(1) again", x, Tables.row(4, 0, 0), Tables.row(8, 1, 0));
        due("drift(0)", x.drift(0), OUTSIDE);
        due("drift(13)", x.drift(13), OUTSIDE);
        due("drift(-1)", x.drift(-1), OUTSIDE);
        due("refused: the seed", x.seed(0), 1109335178);
        due("two deeds", x.told(17), 2);
        due("drift(12)", x.drift(12) >= 0 ? 1 : 0, 1);
        due("each time is a deed", x.told(17), 14);
        due("drift(12)", x.drift(12), x.told(3));
        due("sixteen are kept", x.told(17), 16);
        sideByDraws();
        LiftedSystems one = new LiftedSystems();
        one.size(1);
        one.seed(Integer.MAX_VALUE);
        for (int time = 0; time < 40; time++) {
            due("rank by draws", one.drift(12), one.at(0, 0) == 100 ? 0 : 1);
            Check.holds("bounds", Math.abs(one.at(0, 0) - 100) <= 9 && Math.abs(one.at(0, 1) - 100) <= 99);
            Check.holds("a side is 11 times v, less 99", Math.floorMod(one.at(0, 1) - 100, 11) == 0);
        }
    }

    private static void sideByDraws() {
        // Seeds from which the first draws are: i, 2 (the side), v.
        int[][] known = {{2, 0, 17, 671064393}, {7, 0, 0, 712265938}, {15, 0, 18, 778188410}, {10, 1, 16, 736986865}};
        for (int[] draw : known) {
            LiftedSystems x = new LiftedSystems();
            x.seed(draw[0]);
            due("drift(1) from " + draw[0], x.drift(1), 2);
            due("the side", x.at(draw[1], 2), 11 * draw[2] - 99 + 100);
            due("the other side", x.at(1 - draw[1], 2), 100);
            due("the table", x.told(2), P + 1);
            due("the seed", x.seed(0), draw[3]);
        }
    }

    private static void undo() {
        LiftedSystems x = new LiftedSystems();
        due("undo(1)", x.undo(1), NOT);
        due("undo(0)", x.undo(0), OUTSIDE);
        due("undo(17)", x.undo(17), OUTSIDE);
        due("undo(-1)", x.undo(-1), OUTSIDE);
        x.put(0, 0, 2);
        x.put(0, 0, 3);
        x.put(0, 0, 4);
        due("told(17)", x.told(17), 3);
        due("undo(4)", x.undo(4), NOT);
        due("refused", x.at(0, 0), 104);
        due("undo(2)", x.undo(2), 1);
        due("undone", x.at(0, 0), 102);
        due("told(17)", x.told(17), 1);
        x.put(0, 0, 5);
        due("undo(1)", x.undo(1), 1);
        due("undone", x.at(0, 0), 102);
        due("undo(1)", x.undo(1), 0);
        due("undone", x.at(0, 0), 101);
    }

    private static void undoOfEachDeed() {
        LiftedSystems x = Tables.of(Tables.row(1, 2, 3), Tables.row(4, 5, 6));
        x.keep(0);
        x.write(0, 0, 1);
        int[][] rows = {{1, 2, 3}, {4, 5, 6}};
        x.size(4);
        due("size: undo(1)", x.undo(1), 0);
        dueRows("size undone", x, rows);
        x.put(1, 1, 5);
        due("a put that changes nothing is a deed: undo(1)", x.undo(1), 0);
        x.side(1, 9);
        x.swap(0, 1);
        x.mix(0, 1, 1);
        x.turn();
        x.prime(5);
        due("told(17)", x.told(17), 5);
        due("undo(1)", x.undo(1), 4);
        due("prime undone", x.told(1), 7);
        due("undo(1)", x.undo(1), 3);
        dueRows("turn undone", x, Tables.row(5, 7, 12), Tables.row(1, 2, 3));
        due("undo(1)", x.undo(1), 2);
        dueRows("mix undone", x, Tables.row(4, 5, 9), Tables.row(1, 2, 3));
        due("undo(2)", x.undo(2), 0);
        dueRows("swap and side undone", x, rows);
        x.drift(3);
        int seed = x.seed(1);
        x.seed(seed);
        due("undo(3)", x.undo(3), 0);
        dueRows("drift undone", x, rows);
        due("the seed stays", x.seed(0), seed);
        due("the book stays", x.told(15), 1);
        x.seed(7);
        x.write(0, 1, 1);
        x.tear();
        due("seed, write and tear are no deeds", x.told(17), 0);
    }

    private static void undoKeepsSixteen() {
        LiftedSystems x = new LiftedSystems();
        for (int v = 1; v <= 40; v++) {
            x.side(0, v);
            due("told(17)", x.told(17), Math.min(v, 16));
        }
        due("undo(5)", x.undo(5), 11);
        due("at", x.at(0, 2), 135);
        due("undo(11)", x.undo(11), 0);
        due("at", x.at(0, 2), 124);
        due("undo(1)", x.undo(1), NOT);
        x.side(0, 99);
        due("undo(16)", x.undo(16), NOT);
        due("undo(1)", x.undo(1), 0);
        due("at", x.at(0, 2), 124);
        due("no determinant is changed by that", x.told(2), P + 1);
    }
}
