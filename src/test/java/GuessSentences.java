import java.math.BigInteger;

/** GUESS, SURE, EARLY and TOO SOON of the second part, and promise 10: guess. */
final class GuessSentences extends Sentences {
    private static final long G = 4000000000L;
    private static final long LIMIT = 2000000000000000000L;
    /** A prime's number, k, and the T of p to the k. */
    private static final int[][] BOUNDS = {
        {0, 2, 1}, {0, 3, 1}, {0, 4, 2}, {0, 5, 3}, {0, 6, 5}, {0, 7, 7}, {0, 8, 11}, {0, 9, 15}, {0, 11, 31}, {0, 13, 63},
        {1, 1, 1}, {1, 2, 2}, {1, 3, 3}, {1, 4, 6}, {1, 5, 11}, {1, 6, 19}, {2, 1, 1}, {2, 2, 3}, {2, 3, 7}, {3, 1, 1},
        {3, 2, 4}, {3, 3, 13}, {3, 4, 34}, {4, 1, 2}, {5, 1, 2}, {6, 1, 2}, {7, 1, 3}, {24, 1, 6}, {24, 2, 68}
    };

    private GuessSentences() {
    }

    static void test() {
        powers();
        bounds();
        fractions();
        sure();
        early();
        tooSoon();
        guessCall();
    }

    /** The greatest k for which p to the k is no more than the limit. */
    private static int mostDigits(int p) {
        int k = 0;
        while (BigInteger.valueOf(p).pow(k + 1).compareTo(BigInteger.valueOf(LIMIT)) <= 0) {
            k++;
        }
        return k;
    }

    private static void powers() {
        says(TERMS, "GUESS k of an X, k 1 or more, p to the k (M) no more than 2000000000000000000, p not BAD: a is what its first k digits make;");
        due("by 2", mostDigits(2), 60);
        due("by 97", mostDigits(97), 9);
        for (int prime = 0; prime < 25; prime++) {
            int p = PRIMES[prime];
            int most = mostDigits(p);
            LiftedSystems x = one(1, -99);
            x.prime(prime);
            due("by " + p + ", " + most + " digits", x.guess(0, most, 0), G - 99);
            due("by " + p + ", " + most + " digits, v", x.guess(0, most, 1), 1);
            due("by " + p + ", a digit more", x.guess(0, most + 1, 0), OUTSIDE);
            x.side(0, 1);
            due("by " + p + ", 1 digit", x.guess(0, 1, 0), p == 2 ? NONE : G + 1);
            due("by " + p + ", 0 digits", x.guess(0, 0, 0), OUTSIDE);
        }
        LiftedSystems bad = one(7, 1);
        due("p is BAD", bad.guess(0, 1, 0), NOT);
    }

    private static void bounds() {
        says(TERMS, "T the greatest whole number for which 2 T T is less than M.");
        for (int[] bound : BOUNDS) {
            int k = bound[1];
            int t = bound[2];
            String where = PRIMES[bound[0]] + " to the " + k + ", ";
            LiftedSystems x = one(1, t);
            x.prime(bound[0]);
            due(where + "u is T", x.guess(0, k, 0), G + t);
            due(where + "v of T", x.guess(0, k, 1), 1);
            x.side(0, -t);
            due(where + "u is -T", x.guess(0, k, 0), G - t);
            x.side(0, t + 1);
            holds(where + "u is not T and 1", x.guess(0, k, 0) != G + t + 1);
            x.side(0, -t - 1);
            holds(where + "u is not -T less 1", x.guess(0, k, 0) != G - t - 1);
            belowBounds(where, bound);
        }
        LiftedSystems none = one(1, 0);
        none.prime(0);
        due("2 to the 1: T is 0", none.guess(0, 1, 0), NONE);
        due("2 to the 1: T is 0", none.guess(0, 1, 1), NONE);
        due("2 to the 2: T is 1", none.guess(0, 2, 0), G);
    }

    private static void belowBounds(String where, int[] bound) {
        int k = bound[1];
        for (int v = 1; v <= 9; v++) {
            if (v % PRIMES[bound[0]] != 0) {
                LiftedSystems x = one(v, 1);
                x.prime(bound[0]);
                if (v <= bound[2]) {
                    due(where + "1 by " + v + ", u", x.guess(0, k, 0), G + 1);
                    due(where + "1 by " + v + ", v", x.guess(0, k, 1), v);
                } else {
                    holds(where + "v is more than T", x.guess(0, k, 0) != G + 1 || x.guess(0, k, 1) != v);
                }
            }
        }
    }

    private static void fractions() {
        says(TERMS, "The fraction u by v in lowest terms with u from -T to T, v from 1 to T, v not divided by p, for which a v less u "
            + "is divided by M (there is never more than one); NONE: there is none.");
        for (int a = 1; a <= 9; a++) {
            for (int b = -99; b <= 99; b += 3) {
                for (int[] bound : BOUNDS) {
                    if (a % PRIMES[bound[0]] != 0) {
                        byTrial(a, b, bound);
                    }
                }
            }
        }
        // 97 times 7 is two times 343, less 7: but 7 divides 7. 50 times 7 is 350: but 7 divides 7 again.
        due("97 by 343", one(1, 97).guess(0, 3, 0), NONE);
        due("97 by 343, v", one(1, 97).guess(0, 3, 1), NONE);
        due("50 by 343", one(1, 50).guess(0, 3, 0), NONE);
    }

    private static void byTrial(int a, int b, int[] bound) {
        int p = PRIMES[bound[0]];
        int t = bound[2];
        int m = BigInteger.valueOf(p).pow(bound[1]).intValueExact();
        int made = BigInteger.valueOf(a).modInverse(BigInteger.valueOf(m)).multiply(BigInteger.valueOf(b)).mod(BigInteger.valueOf(m)).intValueExact();
        long u = NONE;
        long v = NONE;
        int found = 0;
        for (int below = 1; below <= t; below++) {
            for (int above = -t; above <= t; above++) {
                boolean lowest = BigInteger.valueOf(above).gcd(BigInteger.valueOf(below)).intValueExact() == 1;
                if (below % p != 0 && lowest && (made * below - above) % m == 0) {
                    u = G + above;
                    v = below;
                    found++;
                }
            }
        }
        LiftedSystems x = one(a, b);
        x.prime(bound[0]);
        String where = b + " by " + a + ", " + p + " to the " + bound[1];
        holds(where + ": never more than one", found <= 1);
        due(where + ": u", x.guess(0, bound[1], 0), u);
        due(where + ": v", x.guess(0, bound[1], 1), v);
    }

    private static void dueSure(int prime, int want, int[]... rows) {
        LiftedSystems x = Tables.of(rows);
        x.prime(prime);
        due("told(12) by " + PRIMES[prime], x.told(12), want);
    }

    private static void sure() {
        says(TERMS, "SURE, p not BAD: the least k for which p to the k is more than 2 times the product, over all ROWS, of the sum of all "
            + "squares of numbers of the ROW and of B i.");
        // 2 times 1 is 2, 2 times 2 is 4, 2 times 4 is 8, 2 times 16 is 32: as much is not more.
        dueSure(0, 2, row(1, 0));
        dueSure(0, 3, row(1, 1));
        dueSure(0, 3, row(-1, -1));
        dueSure(0, 4, row(1, 0, 1), row(0, 1, 1));
        dueSure(0, 6, row(1, 0, 0, 0, 1), row(0, 1, 0, 0, 1), row(0, 0, 1, 0, 1), row(0, 0, 0, 1, 1));
        // One more, one less: 3 by 2; 3 and 5 by 4; 9 and 7 by 8; 11 and 9 by 10; 243 by 242.
        dueSure(1, 1, row(1, 0));
        dueSure(1, 2, row(1, 1));
        dueSure(2, 1, row(1, 1));
        dueSure(1, 2, row(2, 0));
        dueSure(3, 2, row(2, 0));
        dueSure(4, 1, row(1, 2));
        dueSure(1, 3, row(1, 2));
        dueSure(1, 5, row(1, 1, 3), row(1, 3, 1));
        dueSure(1, 6, row(1, 1, 3), row(1, 3, 2));
        // The greatest: by 2, and of all that 97 has.
        dueSure(0, 55, row(8, 9, 9, 9, 99), row(9, 8, 9, 9, 99), row(9, 9, 8, 9, -99), row(9, 9, 9, 8, -99));
        dueSure(24, 9, row(9, 9, 9, 9, 99), row(9, -9, 9, -9, -99), row(9, 9, -9, -9, -99), row(9, -9, -9, 9, -99));
        LiftedSystems bad = one(2, 1);
        bad.prime(0);
        due("p is BAD", bad.told(12), NONE);
    }

    private static boolean isGuessed(LiftedSystems x, int k) {
        boolean all = true;
        for (int j = 0; j < x.told(0); j++) {
            all &= x.guess(j, k, 0) != NONE;
        }
        return all;
    }

    private static boolean isRight(LiftedSystems x, int k) {
        boolean all = true;
        for (int j = 0; j < x.told(0); j++) {
            all &= x.guess(j, k, 0) - G == x.solution(j, 0) - P && x.guess(j, k, 1) == x.solution(j, 1);
        }
        return all;
    }

    private static void early() {
        says(TERMS, "EARLY: the least k for which GUESS k of each X is its SOLUTION (that is no more than SURE).");
        for (int prime = 0; prime < 25; prime++) {
            for (int seed = 0; seed < 24; seed++) {
                earlyOf(1 + seed % 4, seed, prime);
            }
        }
        LiftedSystems x = one(1, 8);
        due("it is SURE", x.told(12), 3);
        due("it is SURE", x.told(13), 3);
        due("one digit less does not do", x.guess(0, 2, 0), NONE);
        LiftedSystems y = of(row(1, 0, 0), row(0, 1, 4));
        due("the last of all decides", y.told(13), 2);
        y.side(1, 5);
        due("5 is more than T", y.told(13), 3);
        y.side(1, 0);
        y.side(0, 5);
        due("the first decides as well", y.told(13), 3);
        LiftedSystems z = one(1, 1);
        due("1 at least", z.told(13), 1);
        z.prime(0);
        due("by 2 there is none by 1 digit", z.told(13), 2);
    }

    private static void earlyOf(int n, int seed, int prime) {
        LiftedSystems x = drawn(n, 1000 + seed);
        x.prime(prime);
        if (x.told(8) == 1) {
            due("p is BAD", x.told(13), NONE);
            return;
        }
        int early = x.told(13);
        holds("1 .. SURE: " + early, early >= 1 && early <= x.told(12));
        holds("by " + early + " digits each is right", isRight(x, early));
        for (int k = Math.max(1, early - 6); k < early; k++) {
            holds("by " + k + " digits not each is right", !isRight(x, k));
        }
    }

    private static void tooSoon() {
        says(TERMS, "TOO SOON: how many lesser k there are by which each X has a GUESS.");
        int several = 0;
        for (int prime = 0; prime < 25; prime++) {
            for (int seed = 0; seed < 24; seed++) {
                several += tooSoonOf(1 + seed % 4, seed, prime) > 1 ? 1 : 0;
            }
        }
        holds("some have more than one", several > 0);
        due("8 by 7: by 1 digit", one(1, 8).told(14), 1);
        due("7 by 7: by 1 digit", one(1, 7).told(14), 1);
        due("50 by 7: by 1 and 2 digits", one(1, 50).told(14), 2);
        due("3 by 7: none by 1 digit", one(1, 3).told(14), 0);
        due("1 by 7: 1 digit does", one(1, 1).told(14), 0);
        due("8, but another has none by 1 digit", of(row(1, 0, 8), row(0, 1, 3)).told(14), 0);
        due("another has none, then 8", of(row(1, 0, 3), row(0, 1, 8)).told(14), 0);
        due("8, and another has one", of(row(1, 0, 8), row(0, 1, 1)).told(14), 1);
    }

    private static int tooSoonOf(int n, int seed, int prime) {
        LiftedSystems x = drawn(n, 2000 + seed);
        x.prime(prime);
        if (x.told(8) == 1) {
            due("p is BAD", x.told(14), NONE);
            return NONE;
        }
        int early = x.told(13);
        int count = 0;
        for (int k = 1; k < early; k++) {
            count += isGuessed(x, k) ? 1 : 0;
        }
        due("lesser than " + early, x.told(14), count);
        return count;
    }

    private static void guessCall() {
        says(10, "GUESS k of X j: what = 0 u and 4000000000, 1 v; NONE.");
        LiftedSystems x = of(row(3, 0, 2), row(0, 3, -2));
        due("2 by 3, u", x.guess(0, 2, 0), 4000000002L);
        due("2 by 3, v", x.guess(0, 2, 1), 3);
        due("-2 by 3, u", x.guess(1, 2, 0), 3999999998L);
        due("-2 by 3, v", x.guess(1, 2, 1), 3);
        due("by 1 digit none", x.guess(0, 1, 0), NONE);
        due("by 1 digit none", x.guess(0, 1, 1), NONE);
        LiftedSystems far = of(row(-3, -8, -9, 9, 99), row(-5, 9, 9, 9, 99), row(-5, -9, 8, 9, -99), row(-2, 9, -9, 7, -99));
        due("far out", far.guess(0, 21, 0), G + 1035144);
        due("far out, v", far.guess(0, 21, 1), 1);
        says(10, "UNKNOWN, OUTSIDE (what; k: below 1, M too great), NOT: p is BAD.");
        for (int n = 1; n <= 4; n++) {
            LiftedSystems y = new LiftedSystems();
            y.size(n);
            due("the last", y.guess(n - 1, 21, 0), G);
            due("one more", y.guess(n, 21, 0), UNKNOWN);
            due("one before", y.guess(-1, 21, 0), UNKNOWN);
            due("k 22 by 7", y.guess(n - 1, 22, 0), OUTSIDE);
            due("k 0", y.guess(n - 1, 0, 0), OUTSIDE);
            due("k far out", y.guess(n - 1, GREATEST, 0), OUTSIDE);
            due("k far below", y.guess(n - 1, LEAST, 0), OUTSIDE);
            due("what 2", y.guess(n - 1, 21, 2), OUTSIDE);
            due("what -1", y.guess(n - 1, 21, -1), OUTSIDE);
            y.put(0, 0, 7);
            due("by 7", y.guess(n - 1, 21, 1), NOT);
            y.put(0, 0, 8);
            due("by 7, not BAD", y.guess(n - 1, 21, 1), 1);
        }
    }
}
