import java.math.BigInteger;
import java.util.Arrays;

/** The terms of the second part up to REST, and promises 7 to 9: back, digit, rest. */
final class PrimeSentences extends Sentences {
    private PrimeSentences() {
    }

    static void test() {
        primes();
        bad();
        leftOver();
        moduloRank();
        ways();
        back();
        digits();
        rest();
        backCall();
        digitCall();
        restCall();
    }

    /** Two rows and columns whose determinant is this, from -97 to 97. */
    private static LiftedSystems ofDeterminant(int determinant) {
        for (int a = -9; a <= 9; a++) {
            for (int b = -9; b <= 9; b++) {
                for (int c = -9; c <= 9; c++) {
                    if (9 * a - b * c == determinant) {
                        return of(row(9, b, 1), row(c, a, 2));
                    }
                }
            }
        }
        throw new IllegalArgumentException("no such table");
    }

    private static void primes() {
        says(TERMS, "THE PRIME p: one of the 25 from 2 to 97, numbered from 0 on, rising (2 is 0, 97 is 24; 3, that is 7, at first).");
        LiftedSystems x = new LiftedSystems();
        due("at first", x.told(1), 7);
        due("number -1", x.prime(-1), OUTSIDE);
        due("it stays", x.told(1), 7);
        for (int k = 0; k < 25; k++) {
            due("prime(" + k + ")", x.prime(k), PRIMES[k]);
            due("told(1)", x.told(1), PRIMES[k]);
        }
        due("number 25", x.prime(25), OUTSIDE);
        due("it stays", x.told(1), 97);
    }

    private static void bad() {
        says(TERMS, "BAD: a PRIME that divides DETERMINANT (all, if that is 0).");
        for (int k = 0; k < 25; k++) {
            for (int determinant = -97; determinant <= 97; determinant++) {
                LiftedSystems x = ofDeterminant(determinant);
                x.prime(k);
                due("the determinant", x.told(2), P + determinant);
                due(PRIMES[k] + " by " + determinant, x.told(8), determinant % PRIMES[k] == 0 ? 1 : 0);
            }
        }
        due("of 1 none", ofDeterminant(1).told(9), 0);
        due("of -1 none", ofDeterminant(-1).told(9), 0);
        due("of 97 one", ofDeterminant(97).told(9), 1);
        due("of -96 two", ofDeterminant(-96).told(9), 2);
        due("of 30 three", ofDeterminant(30).told(9), 3);
        due("of 0 all", ofDeterminant(0).told(9), 25);
        LiftedSystems y = of(row(8, 9, 9, 9, 0), row(9, -9, 9, -9, 0), row(9, 9, -9, -9, 0), row(9, -9, -9, 9, 0));
        due("the determinant", y.told(2), P + 102060);
        due("2, 3, 5 and 7", y.told(9), 4);
    }

    private static void leftOver() {
        says(TERMS, "LEFT OVER of a number by p is 0 .. p less 1, also of one below 0 (of -1 it is p less 1).");
        for (int k = 0; k < 25; k++) {
            int p = PRIMES[k];
            LiftedSystems x = one(1, -1);
            x.prime(k);
            int[] numbers = {-99, -p - 1, -p, 1 - p, -1, 0, 1, p - 1, p, p + 1, 99};
            for (int v : numbers) {
                if (Math.abs(v) <= 99) {
                    x.side(0, v);
                    due(v + " by " + p, x.digit(0, 0), Math.floorMod(v, p));
                }
            }
            x.put(0, 0, -1);
            due("1 by -1, by " + p, x.back(0, 0), p - 1);
            x.put(0, 0, 1);
            due("1 by 1, by " + p, x.back(0, 0), 1);
        }
    }

    private static void moduloRank() {
        says(TERMS, "MODULO RANK: as RANK, but with LEFT OVERS by p in place of fractions.");
        for (int k = 0; k < 25; k++) {
            for (int a = -9; a <= 9; a++) {
                LiftedSystems x = one(a, 1);
                x.prime(k);
                due(a + " by " + PRIMES[k], x.told(10), a % PRIMES[k] == 0 ? 0 : 1);
            }
            LiftedSystems y = ofDeterminant(PRIMES[k]);
            y.prime(k);
            due("of determinant p", y.told(10), 1);
            due("rank", y.told(3), 2);
            y.prime((k + 1) % 25);
            due("by another prime", y.told(10), 2);
        }
        LiftedSystems z = of(row(3, 6, -9, 1), row(0, 3, 9, 1), row(-6, 0, 3, 1));
        z.prime(1);
        due("all divided by 3", z.told(10), 0);
        z.put(2, 2, 4);
        due("but for one", z.told(10), 1);
        z.put(1, 1, 1);
        due("but for two", z.told(10), 2);
        z.put(0, 0, -1);
        due("but for three", z.told(10), 3);
    }

    private static void ways() {
        says(TERMS, "WAYS: how many ways there are to have 0 .. p less 1 for each X, such that in each ROW the sum leaves over what B i leaves over.");
        for (int k = 0; k < 25; k++) {
            int p = PRIMES[k];
            int[] sides = {0, p, -p, 1, -1, p - 1, p + 1};
            for (int b : sides) {
                if (Math.abs(b) <= 99) {
                    LiftedSystems x = one(0, b);
                    x.prime(k);
                    due("0 X is " + b + " by " + p, x.told(11), b % p == 0 ? p : 0);
                    x.put(0, 0, 1);
                    due("X is " + b + " by " + p, x.told(11), 1);
                }
            }
            LiftedSystems y = new LiftedSystems();
            int ways = 1;
            for (int n = 1; n <= 4; n++) {
                ways *= p;
                y.size(n);
                for (int i = 0; i < n; i++) {
                    y.put(i, i, 0);
                }
                y.prime(k);
                due("all ways of " + n + " by " + p, y.told(11), ways);
                y.put(0, n - 1, 1);
                due("one less by " + p, y.told(11), ways / p);
            }
        }
        LiftedSystems z = of(row(1, 2, 3), row(4, 8, 5));
        due("12 is 5 by 7", z.told(11), 7);
        z.side(1, 6);
        due("12 is not 6 by 7", z.told(11), 0);
    }

    private static void back() {
        says(TERMS, "BACK, p not BAD: the table of numbers C i j (0 .. p less 1), for which the sum of A i k times C k j over all k "
            + "leaves over 1, if i is j, else 0.");
        for (int k = 0; k < 25; k++) {
            for (int n = 1; n <= 4; n++) {
                for (int seed = 1; seed <= 5; seed += 2) {
                    LiftedSystems x = drawn(n, seed);
                    x.prime(k);
                    backOf(x);
                }
            }
        }
        LiftedSystems bad = one(7, 1);
        due("p is BAD", bad.back(0, 0), NOT);
    }

    private static void backOf(LiftedSystems x) {
        int[][] rows = rowsOf(x);
        int n = rows.length;
        int p = x.told(1);
        if (x.told(8) == 1) {
            due("p is BAD", x.back(n - 1, n - 1), NOT);
            return;
        }
        int[][] c = new int[n][n];
        for (int i = 0; i < n; i++) {
            for (int j = 0; j < n; j++) {
                c[i][j] = x.back(i, j);
                holds("0 .. p less 1", c[i][j] >= 0 && c[i][j] < p);
            }
        }
        for (int i = 0; i < n; i++) {
            for (int j = 0; j < n; j++) {
                int sum = 0;
                for (int k = 0; k < n; k++) {
                    sum += rows[i][k] * c[k][j];
                }
                due("row " + i + " by column " + j, Math.floorMod(sum, p), i == j ? 1 : 0);
            }
        }
    }

    private static void digits() {
        says(TERMS, "DIGITS, p not BAD: of each X digits 0, 1, 2 .. (each 0 .. p less 1; there is just one way) such that for each k, "
            + "with V j the sum of digit i of X j times p to the i, for i 0 .. k, in each ROW the sum of A i j times V j, less B i, "
            + "is divided by p to the (k and 1).");
        int[] numbers = {0, 1, 2, 3, 12, 24};
        for (int k : numbers) {
            for (int n = 1; n <= 4; n++) {
                LiftedSystems x = drawn(n, 7 * n);
                x.prime(k);
                digitsOf(x);
            }
            LiftedSystems far = new LiftedSystems();
            far.size(4);
            far.prime(k);
            int[] sides = {99, -99, 1, -1};
            for (int i = 0; i < 4; i++) {
                far.side(i, sides[i]);
            }
            digitsOf(far);
        }
    }

    private static void digitsOf(LiftedSystems x) {
        int[][] rows = rowsOf(x);
        int n = rows.length;
        int p = x.told(1);
        if (x.told(8) == 1) {
            due("p is BAD", x.digit(n - 1, 0), NOT);
            return;
        }
        BigInteger[] made = new BigInteger[n];
        Arrays.fill(made, BigInteger.ZERO);
        BigInteger power = BigInteger.ONE;
        for (int k = 0; k < 100; k++) {
            for (int j = 0; j < n; j++) {
                int digit = x.digit(j, k);
                holds("0 .. p less 1", digit >= 0 && digit < p);
                made[j] = made[j].add(power.multiply(BigInteger.valueOf(digit)));
            }
            power = power.multiply(BigInteger.valueOf(p));
            for (int i = 0; i < n; i++) {
                BigInteger[] parts = left(rows[i], made).divideAndRemainder(power);
                holds("digits up to " + k + " fit row " + i, parts[1].signum() == 0);
            }
        }
    }

    /** B i less the sum of A i j times what is made. */
    private static BigInteger left(int[] row, BigInteger[] made) {
        BigInteger left = BigInteger.valueOf(row[made.length]);
        for (int j = 0; j < made.length; j++) {
            left = left.subtract(made[j].multiply(BigInteger.valueOf(row[j])));
        }
        return left;
    }

    private static void rest() {
        says(TERMS, "REST k of a ROW i: B i less the sum of A i j times what the first k digits of X j make, divided by p to the k (REST 0 is B i).");
        int[] numbers = {0, 1, 3, 24};
        for (int prime : numbers) {
            for (int n = 1; n <= 4; n++) {
                // By 300 digits and 300 rests apart, so that no object is asked too often.
                LiftedSystems x = drawn(n, 11 * n + 1);
                LiftedSystems y = drawn(n, 11 * n + 1);
                x.prime(prime);
                y.prime(prime);
                restOf(x, y);
            }
        }
        LiftedSystems z = one(9, 99);
        due("REST 0", z.rest(0, 0), P + 99);
        z.side(0, -99);
        due("REST 0", z.rest(0, 0), P - 99);
    }

    private static void restOf(LiftedSystems x, LiftedSystems y) {
        int[][] rows = rowsOf(x);
        int n = rows.length;
        if (x.told(8) == 1) {
            due("p is BAD", x.rest(n - 1, 0), NOT);
            return;
        }
        BigInteger p = BigInteger.valueOf(x.told(1));
        BigInteger[] made = new BigInteger[n];
        Arrays.fill(made, BigInteger.ZERO);
        for (int k = 0; k <= 100; k++) {
            for (int i = 0; i < n; i++) {
                due("rest(" + i + ", " + k + ")", y.rest(i, k), P + left(rows[i], made).divide(p.pow(k)).longValueExact());
            }
            for (int j = 0; j < n && k < 100; j++) {
                made[j] = made[j].add(p.pow(k).multiply(BigInteger.valueOf(x.digit(j, k))));
            }
        }
    }

    private static void backCall() {
        says(7, "C i j of BACK.");
        LiftedSystems x = of(row(1, 2, 0), row(3, 5, 0));
        int[][] back = {{2, 2}, {3, 6}};
        for (int i = 0; i < 2; i++) {
            for (int j = 0; j < 2; j++) {
                due("back(" + i + ", " + j + ")", x.back(i, j), back[i][j]);
            }
        }
        says(7, "UNKNOWN, NOT: p is BAD.");
        for (int n = 1; n <= 4; n++) {
            LiftedSystems y = new LiftedSystems();
            y.size(n);
            due("the last", y.back(n - 1, n - 1), 1);
            due("a row more", y.back(n, 0), UNKNOWN);
            due("a column more", y.back(0, n), UNKNOWN);
            due("a row before", y.back(-1, 0), UNKNOWN);
            due("a column before", y.back(0, -1), UNKNOWN);
            y.put(n - 1, n - 1, 7);
            due("by 7", y.back(n - 1, n - 1), NOT);
            y.put(n - 1, n - 1, 6);
            due("6 times 6 is 36", y.back(n - 1, n - 1), 6);
        }
    }

    private static void digitCall() {
        says(8, "Digit k (0 .. 99) of X j.");
        // -1 by 7 is 6 6 6 ..; 1 by 2 is 4 3 3 3 ..
        LiftedSystems x = of(row(1, 0, -1), row(0, 2, 1));
        due("digit 0", x.digit(0, 0), 6);
        due("digit 0 of X 1", x.digit(1, 0), 4);
        due("digit 1 of X 1", x.digit(1, 1), 3);
        due("digit 99", x.digit(0, 99), 6);
        due("digit 99 of X 1", x.digit(1, 99), 3);
        due("digit 100", x.digit(0, 100), OUTSIDE);
        due("digit -1", x.digit(0, -1), OUTSIDE);
        says(8, "UNKNOWN, OUTSIDE, NOT: p is BAD.");
        for (int n = 1; n <= 4; n++) {
            LiftedSystems y = new LiftedSystems();
            y.size(n);
            due("the last", y.digit(n - 1, 99), 0);
            due("one more", y.digit(n, 99), UNKNOWN);
            due("one before", y.digit(-1, 0), UNKNOWN);
            due("far out", y.digit(0, GREATEST), OUTSIDE);
            due("far out", y.digit(0, LEAST), OUTSIDE);
            y.put(0, 0, -7);
            due("by 7", y.digit(n - 1, 99), NOT);
            y.put(0, 0, -8);
            due("by 7, not BAD", y.digit(n - 1, 99), 0);
        }
    }

    private static void restCall() {
        says(9, "REST k (0 .. 100) of ROW i, and PLUS.");
        LiftedSystems x = of(row(1, 0, -1), row(0, 1, 99));
        due("REST 0", x.rest(0, 0), P - 1);
        due("REST 100", x.rest(0, 100), P - 1);
        due("REST 101", x.rest(0, 101), OUTSIDE);
        due("REST -1", x.rest(0, -1), OUTSIDE);
        // 99 by 7 is 1 0 2.
        int[] left = {99, 14, 2, 0, 0};
        for (int k = 0; k < left.length; k++) {
            due("rest(1, " + k + ")", x.rest(1, k), P + left[k]);
        }
        says(9, "UNKNOWN, OUTSIDE, NOT: p is BAD.");
        for (int n = 1; n <= 4; n++) {
            LiftedSystems y = new LiftedSystems();
            y.size(n);
            due("the last", y.rest(n - 1, 100), P);
            due("one more", y.rest(n, 100), UNKNOWN);
            due("one before", y.rest(-1, 100), UNKNOWN);
            due("far out", y.rest(0, GREATEST), OUTSIDE);
            due("far out", y.rest(0, LEAST), OUTSIDE);
            y.put(0, 0, 7);
            due("by 7", y.rest(n - 1, 100), NOT);
            due("by 7, REST 0", y.rest(n - 1, 0), NOT);
            y.put(0, 0, 8);
            due("by 7, not BAD", y.rest(n - 1, 100), P);
        }
    }
}
