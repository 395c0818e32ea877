/** Promises 7 to 10: back, digit, rest, guess; and SURE, EARLY, TOO SOON of promise 2. */
public final class PrimeTest {
    private static final int P = LiftedSystems.PLUS;
    private static final long G = 4000000000L;
    private static final int NONE = LiftedSystems.NONE;
    private static final int UNKNOWN = LiftedSystems.UNKNOWN;
    private static final int OUTSIDE = LiftedSystems.OUTSIDE;
    private static final int NOT = LiftedSystems.NOT;

    public static void main(String[] args) {
        back();
        backTimesTableIsOne();
        digits();
        rests();
        guesses();
        guessEdges();
        guessLimits();
        sureEarlyTooSoon();
        badPrime();
        Check.end();
    }

    private static void due(String call, long got, long want) {
        Check.due(call, got, want);
    }

    private static void back() {
        // 1 2 / 3 5 has the determinant -1; back are -5 2 / 3 -1, by 7: 2 2 / 3 6.
        LiftedSystems x = Tables.of(Tables.row(1, 2, 0), Tables.row(3, 5, 0));
        due("back(0, 0)", x.back(0, 0), 2);
        due("back(0, 1)", x.back(0, 1), 2);
        due("back(1, 0)", x.back(1, 0), 3);
        due("back(1, 1)", x.back(1, 1), 6);
        due("back(2, 0)", x.back(2, 0), UNKNOWN);
        due("back(0, 2)", x.back(0, 2), UNKNOWN);
        due("back(-1, 0)", x.back(-1, 0), UNKNOWN);
        due("back(0, -1)", x.back(0, -1), UNKNOWN);
        x.put(1, 1, 6);
        due("BAD: back(0, 0)", x.back(0, 0), NOT);
        due("BAD: back(0, 2): UNKNOWN goes first", x.back(0, 2), UNKNOWN);
    }

    private static void backTimesTableIsOne() {
        int[][] rows = {{0, 3, -5, 9, 1}, {2, 0, 8, -7, 2}, {-9, 4, 0, 1, 3}, {6, 6, -2, 0, 4}};
        for (int prime = 0; prime < 25; prime++) {
            LiftedSystems x = Tables.of(rows);
            int p = x.prime(prime);
            for (int i = 0; i < 4 && x.told(8) == 0; i++) {
                for (int j = 0; j < 4; j++) {
                    int sum = 0;
                    for (int k = 0; k < 4; k++) {
                        sum += rows[i][k] * x.back(k, j);
                        Check.holds("0 .. p less 1", x.back(k, j) >= 0 && x.back(k, j) < p);
                    }
                    due("row " + i + " times back " + j + " by " + p, Math.floorMod(sum, p), i == j ? 1 : 0);
                }
            }
        }
    }

    private static void digits() {
        // -1 by 7 is 6 6 6 ..; 1/2 by 7 is 4 3 3 3 ..
        LiftedSystems x = Tables.of(Tables.row(1, 0, -1), Tables.row(0, 2, 1));
        int[] places = {0, 1, 2, 50, 98, 99};
        for (int k : places) {
            due("digit(0, " + k + ")", x.digit(0, k), 6);
            due("digit(1, " + k + ")", x.digit(1, k), k == 0 ? 4 : 3);
        }
        due("digit(0, 100)", x.digit(0, 100), OUTSIDE);
        due("digit(0, -1)", x.digit(0, -1), OUTSIDE);
        due("digit(2, 0)", x.digit(2, 0), UNKNOWN);
        due("digit(-1, 0)", x.digit(-1, 0), UNKNOWN);
        due("digit(2, 100): UNKNOWN goes first", x.digit(2, 100), UNKNOWN);
        // 1/5 by 2, period 4: 1/5 is 1 - 4/5 = 1 + 12 / (1 - 16): digits 1 0 1 1 0 0 1 1 ..
        LiftedSystems y = Tables.of(new int[][] {{5, 1}});
        y.prime(0);
        int[] fifth = {1, 0, 1, 1, 0, 0, 1, 1, 0, 0, 1, 1};
        for (int k = 0; k < fifth.length; k++) {
            due("1/5 by 2: digit(0, " + k + ")", y.digit(0, k), fifth[k]);
        }
    }

    private static void rests() {
        // -1 by 7: 0 x ahead is -1, and -1 behind each digit 6.
        LiftedSystems x = Tables.of(Tables.row(1, 0, -1), Tables.row(0, 2, 1));
        due("rest(0, 0)", x.rest(0, 0), P - 1);
        due("rest(0, 1)", x.rest(0, 1), P - 1);
        due("rest(0, 100)", x.rest(0, 100), P - 1);
        due("rest(1, 0)", x.rest(1, 0), P + 1);
        due("rest(1, 1): (1 less 8) / 7", x.rest(1, 1), P - 1);
        due("rest(1, 2): (-1 less 6) / 7", x.rest(1, 2), P - 1);
        due("rest(0, 101)", x.rest(0, 101), OUTSIDE);
        due("rest(0, -1)", x.rest(0, -1), OUTSIDE);
        due("rest(2, 0)", x.rest(2, 0), UNKNOWN);
        due("rest(-1, 101): UNKNOWN goes first", x.rest(-1, 101), UNKNOWN);
        x.side(0, 99);
        // 99 by 7 is 1 0 2 0 ..
        int[] left = {99, 14, 2, 0, 0};
        for (int k = 0; k < left.length; k++) {
            due("99: rest(0, " + k + ")", x.rest(0, k), P + left[k]);
        }
    }

    private static void guesses() {
        // 2/3 by 7 is 3 2 2 2 ..: a is 3, 17, 115; T is 1, 4, 13.
        LiftedSystems x = Tables.of(new int[][] {{3, 2}});
        due("guess(0, 1, 0): 3 v less u by 7 with 1 .. 1: none", x.guess(0, 1, 0), NONE);
        due("guess(0, 1, 1)", x.guess(0, 1, 1), NONE);
        due("guess(0, 2, 0)", x.guess(0, 2, 0), G + 2);
        due("guess(0, 2, 1)", x.guess(0, 2, 1), 3);
        due("guess(0, 3, 0)", x.guess(0, 3, 0), G + 2);
        due("guess(0, 3, 1)", x.guess(0, 3, 1), 3);
        x.side(0, -2);
        due("guess(0, 2, 0) of -2/3", x.guess(0, 2, 0), G - 2);
        due("guess(0, 2, 1) of -2/3", x.guess(0, 2, 1), 3);
        x.side(0, 0);
        due("guess(0, 1, 0) of 0", x.guess(0, 1, 0), G);
        due("guess(0, 1, 1) of 0", x.guess(0, 1, 1), 1);
        // 8 by 7 is 1 1: by one digit it looks like 1.
        x.put(0, 0, 1);
        x.side(0, 8);
        due("guess(0, 1, 0) of 8", x.guess(0, 1, 0), G + 1);
        due("guess(0, 1, 1) of 8", x.guess(0, 1, 1), 1);
        due("guess(0, 2, 0) of 8: 8 by 49 with 4 at most: none", x.guess(0, 2, 0), NONE);
        due("guess(0, 3, 0) of 8", x.guess(0, 3, 0), G + 8);
        // By 7 to the 4, T is 34: 97 is none there, by 7 to the 5, T 91, neither, but 7 to the 6 has it.
        x.side(0, 97);
        due("guess(0, 3, 0) of 97: by 343 it is 97, 97 times 7 is -7, but 7 divides 7", x.guess(0, 3, 0), NONE);
        due("guess(0, 6, 0) of 97", x.guess(0, 6, 0), G + 97);
    }

    private static void guessEdges() {
        LiftedSystems x = Tables.of(new int[][] {{1, 1}});
        x.prime(0);
        due("2 to the 1, T 0: guess(0, 1, 0)", x.guess(0, 1, 0), NONE);
        due("2 to the 2, T 1: guess(0, 2, 0)", x.guess(0, 2, 0), G + 1);
        x.side(0, 0);
        due("0: guess(0, 1, 0)", x.guess(0, 1, 0), NONE);
        due("0: guess(0, 1, 1)", x.guess(0, 1, 1), NONE);
        due("0: guess(0, 2, 1)", x.guess(0, 2, 1), 1);
        // 8 is 2 times 2 times 2: T is 1 there, not 2.
        x.side(0, 2);
        due("2: guess(0, 3, 0)", x.guess(0, 3, 0), NONE);
        due("2: guess(0, 4, 0): 2 T T is less than 16 by 2", x.guess(0, 4, 0), G + 2);
        x.side(0, -2);
        due("-2: guess(0, 4, 0)", x.guess(0, 4, 0), G - 2);
        due("-2: guess(0, 4, 1)", x.guess(0, 4, 1), 1);
        // 32 is 2 times 4 times 4: T is 3.
        x.side(0, 4);
        due("4: guess(0, 5, 0)", x.guess(0, 5, 0), NONE);
        due("4: guess(0, 6, 0)", x.guess(0, 6, 0), G + 4);
    }

    private static void guessLimits() {
        LiftedSystems x = Tables.of(new int[][] {{1, 99}});
        // The greatest k for which p to the k is no more than 2e18.
        int[] most = new int[25];
        for (int prime = 0; prime < 25; prime++) {
            int p = x.prime(prime);
            java.math.BigInteger power = java.math.BigInteger.valueOf(p);
            int k = 1;
            while (power.multiply(java.math.BigInteger.valueOf(p)).compareTo(Model.LIMIT) <= 0) {
                power = power.multiply(java.math.BigInteger.valueOf(p));
                k++;
            }
            most[prime] = k;
            due("by " + p + ": guess(0, " + k + ", 0)", x.guess(0, k, 0), G + 99);
            due("by " + p + ": guess(0, " + k + ", 1)", x.guess(0, k, 1), 1);
            due("by " + p + ": guess(0, " + (k + 1) + ", 0)", x.guess(0, k + 1, 0), OUTSIDE);
        }
        due("by 2", most[0], 60);
        due("by 97", most[24], 9);
        due("guess(0, 0, 0)", x.guess(0, 0, 0), OUTSIDE);
        due("guess(0, -1, 0)", x.guess(0, -1, 0), OUTSIDE);
        due("guess(0, MAX, 0)", x.guess(0, Integer.MAX_VALUE, 0), OUTSIDE);
        due("guess(0, MIN, 0)", x.guess(0, Integer.MIN_VALUE, 0), OUTSIDE);
        due("guess(0, 1, 2)", x.guess(0, 1, 2), OUTSIDE);
        due("guess(0, 1, -1)", x.guess(0, 1, -1), OUTSIDE);
        due("guess(1, 1, 0)", x.guess(1, 1, 0), UNKNOWN);
        due("guess(-1, 0, 5): UNKNOWN goes first", x.guess(-1, 0, 5), UNKNOWN);
    }

    private static void sureEarlyTooSoon() {
        // 8 by 7: one would have stopped at 1 digit; 3 do; 7 to the k is more than 2 (1 and 64): 3.
        LiftedSystems x = Tables.of(new int[][] {{1, 8}});
        due("told(12)", x.told(12), 3);
        due("told(13)", x.told(13), 3);
        due("told(14)", x.told(14), 1);
        // Another X without a guess by 1 digit (2/3): nobody would have stopped there.
        LiftedSystems y = Tables.of(Tables.row(1, 0, 8), Tables.row(0, 3, 2));
        due("y: told(13)", y.told(13), 3);
        due("y: told(14)", y.told(14), 0);
        // 1 by 1: p to the k is to be MORE than 2 times 2: by 2 that is 3 digits, though 2 do.
        LiftedSystems z = Tables.of(new int[][] {{1, 1}});
        z.prime(0);
        due("z: told(12)", z.told(12), 3);
        due("z: told(13)", z.told(13), 2);
        due("z: told(14)", z.told(14), 0);
        z.prime(1);
        due("z by 3: told(12)", z.told(12), 2);
        due("z by 3: told(13)", z.told(13), 1);
        // 50 by 7 is 1 0 1: one would have stopped at 1 and at 2 digits.
        LiftedSystems twice = Tables.of(new int[][] {{1, 50}});
        due("50: guess(0, 2, 0)", twice.guess(0, 2, 0), G + 1);
        due("50: told(14)", twice.told(14), 2);
    }

    private static void badPrime() {
        LiftedSystems x = Tables.of(Tables.row(7, 0, 7), Tables.row(0, 1, 1));
        due("told(8)", x.told(8), 1);
        due("digit(1, 0)", x.digit(1, 0), NOT);
        due("digit(1, 100): OUTSIDE goes first", x.digit(1, 100), OUTSIDE);
        due("rest(0, 0)", x.rest(0, 0), NOT);
        due("rest(0, 101): OUTSIDE goes first", x.rest(0, 101), OUTSIDE);
        due("guess(0, 1, 0)", x.guess(0, 1, 0), NOT);
        due("guess(0, 22, 0): OUTSIDE goes first", x.guess(0, 22, 0), OUTSIDE);
        due("guess(0, 21, 0)", x.guess(0, 21, 0), NOT);
        due("solution(0, 0), all the same", x.solution(0, 0), P + 1);
    }
}
