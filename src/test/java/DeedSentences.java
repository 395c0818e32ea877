/** The terms MIXED, TURNED and BY DRAWS, and promises 14 to 21: size, put, side, swap, mix, turn, prime, drift. */
final class DeedSentences extends Sentences {
    private DeedSentences() {
    }

    static void test() {
        mixed();
        turned();
        byDraws();
        size();
        put();
        side();
        swap();
        mix();
        turn();
        prime();
        drift();
    }

    private static LiftedSystems four() {
        return of(row(1, 2, 3, 4, 50), row(5, 6, 7, 8, -60), row(9, -1, -2, -3, 70), row(-4, -5, -6, -7, -80));
    }

    private static void mixed() {
        says(TERMS, "MIXED: ROW i, its B too, becomes more by t times ROW j.");
        for (int t = -3; t <= 3; t++) {
            LiftedSystems x = of(row(1, -2, 3, 10), row(2, 1, -2, 20), row(3, 3, 3, 30));
            due("mix(0, 1, " + t + ")", x.mix(0, 1, t), 1);
            dueRows("t " + t, x, row(1 + 2 * t, -2 + t, 3 - 2 * t, 10 + 20 * t), row(2, 1, -2, 20), row(3, 3, 3, 30));
            LiftedSystems y = of(row(1, -2, 3, 10), row(2, 1, -2, 20), row(0, 0, 0, 30));
            due("mix(2, 0, " + t + ")", y.mix(2, 0, t), 1);
            dueRows("t " + t, y, row(1, -2, 3, 10), row(2, 1, -2, 20), row(t, -2 * t, 3 * t, 30 + 10 * t));
        }
    }

    private static void turned() {
        says(TERMS, "TURNED: A i j becomes A j i.");
        LiftedSystems x = four();
        x.turn();
        dueRows("four", x, row(1, 5, 9, -4, 50), row(2, 6, -1, -5, -60), row(3, 7, -2, -6, 70), row(4, 8, -3, -7, -80));
        x.turn();
        dueRows("twice", x, rowsOf(four()));
        LiftedSystems y = of(row(1, 2, 3), row(4, 5, 6));
        y.turn();
        dueRows("two", y, row(1, 4, 3), row(2, 5, 6));
        LiftedSystems z = one(8, 9);
        z.turn();
        dueRows("one", z, row(8, 9));
    }

    private static void byDraws() {
        says(TERMS, "BY DRAWS: THE SEED (0 at first: each DRAW it becomes it times 1103515245 and 12345, left over by 2 to the 31; "
            + "the DRAW of n is it / 65536, left over by n): n times: a DRAW of N (i), of N and 1 (j), of 19 (v): if j is N, "
            + "B i becomes 11 times v, less 99; else A i j becomes v less 9.");
        boolean[] seen = new boolean[19];
        boolean[] seenOfSide = new boolean[19];
        for (int n = 1; n <= 4; n++) {
            int[] seeds = {0, 1, 65535, 65536, GREATEST - 1, GREATEST};
            for (int seed : seeds) {
                drawnFrom(n, seed, seen, seenOfSide);
            }
            for (int seed = 100; seed < 200; seed++) {
                drawnFrom(n, seed * 7919, seen, seenOfSide);
            }
        }
        for (int v = 0; v < 19; v++) {
            holds("v " + v + " was drawn for both", seen[v] && seenOfSide[v]);
        }
        LiftedSystems x = new LiftedSystems();
        x.drift(1);
        // 12345, 1406932606, 654583775: by 65536 they are 0, 21468, 9988: i 0, j 0, v 13.
        dueRows("from 0 at first", x, row(4, 0, 0), row(0, 1, 0));
        due("the seed", x.seed(0), 654583775);
    }

    private static void drawnFrom(int n, int seed, boolean[] seen, boolean[] seenOfSide) {
        LiftedSystems x = new LiftedSystems();
        x.size(n);
        x.seed(seed);
        int[][] rows = rowsOf(x);
        long state = seed;
        for (int time = 0; time < 3; time++) {
            int[] draws = new int[3];
            int[] of = {n, n + 1, 19};
            for (int d = 0; d < 3; d++) {
                state = (state * 1103515245L + 12345L) % (1L << 31);
                draws[d] = (int) (state / 65536 % of[d]);
            }
            boolean isSide = draws[1] == n;
            rows[draws[0]][draws[1]] = isSide ? 11 * draws[2] - 99 : draws[2] - 9;
            (isSide ? seenOfSide : seen)[draws[2]] = true;
        }
        x.drift(3);
        dueRows("three times from " + seed, x, rows);
        due("the seed", x.seed(0), state);
    }

    private static void size() {
        says(14, "N becomes n (1 .. 4), THE TABLE 1 where i is j, else 0, THE SIDE 0: N that was.");
        int[][][] ones = {
            {{1, 0}}, {{1, 0, 0}, {0, 1, 0}}, {{1, 0, 0, 0}, {0, 1, 0, 0}, {0, 0, 1, 0}},
            {{1, 0, 0, 0, 0}, {0, 1, 0, 0, 0}, {0, 0, 1, 0, 0}, {0, 0, 0, 1, 0}}
        };
        for (int was = 1; was <= 4; was++) {
            for (int n = 1; n <= 4; n++) {
                LiftedSystems x = drawn(was, 5);
                x.prime(9);
                due("size(" + n + ")", x.size(n), was);
                dueRows("from " + was, x, ones[n - 1]);
                due("the prime stays", x.told(1), 29);
            }
        }
        says(14, "OUTSIDE.");
        LiftedSystems y = four();
        int[] beyond = {0, 5, -1, LEAST, GREATEST};
        for (int n : beyond) {
            due("size(" + n + ")", y.size(n), OUTSIDE);
        }
        dueRows("refused", y, rowsOf(four()));
    }

    private static void put() {
        says(15, "A i j becomes v: what it was and 100.");
        for (int v = -9; v <= 9; v++) {
            LiftedSystems x = four();
            due("put(3, 2, " + v + ")", x.put(3, 2, v), 94);
            due("at(3, 2)", x.at(3, 2), v + 100);
            due("put(3, 2, 0)", x.put(3, 2, 0), v + 100);
        }
        says(15, "UNKNOWN, OUTSIDE.");
        for (int n = 1; n <= 4; n++) {
            LiftedSystems x = new LiftedSystems();
            x.size(n);
            due("the last", x.put(n - 1, n - 1, 9), 101);
            due("a row more", x.put(n, 0, 1), UNKNOWN);
            due("a column more", x.put(0, n, 1), UNKNOWN);
            due("a row before", x.put(-1, 0, 1), UNKNOWN);
            due("a column before", x.put(0, -1, 1), UNKNOWN);
            due("10", x.put(n - 1, n - 1, 10), OUTSIDE);
            due("-10", x.put(n - 1, n - 1, -10), OUTSIDE);
            due("far out", x.put(n - 1, n - 1, GREATEST), OUTSIDE);
            due("far below", x.put(n - 1, n - 1, LEAST), OUTSIDE);
            due("it stays", x.put(n - 1, n - 1, -9), 109);
        }
    }

    private static void side() {
        says(16, "B i becomes v: what it was and 100.");
        for (int v = -99; v <= 99; v++) {
            LiftedSystems x = four();
            due("side(3, " + v + ")", x.side(3, v), 20);
            due("at(3, 4)", x.at(3, 4), v + 100);
            due("side(3, 0)", x.side(3, 0), v + 100);
        }
        says(16, "UNKNOWN, OUTSIDE.");
        for (int n = 1; n <= 4; n++) {
            LiftedSystems x = new LiftedSystems();
            x.size(n);
            due("the last", x.side(n - 1, 99), 100);
            due("a row more", x.side(n, 1), UNKNOWN);
            due("a row before", x.side(-1, 1), UNKNOWN);
            due("100", x.side(n - 1, 100), OUTSIDE);
            due("-100", x.side(n - 1, -100), OUTSIDE);
            due("far out", x.side(n - 1, GREATEST), OUTSIDE);
            due("far below", x.side(n - 1, LEAST), OUTSIDE);
            due("it stays", x.side(n - 1, -99), 199);
        }
    }

    private static void swap() {
        says(17, "ROWS i and j change about, B too: 1.");
        for (int i = 0; i < 4; i++) {
            for (int j = 0; j < 4; j++) {
                if (i != j) {
                    LiftedSystems x = four();
                    int[][] rows = rowsOf(x);
                    int[] was = rows[i];
                    rows[i] = rows[j];
                    rows[j] = was;
                    due("swap(" + i + ", " + j + ")", x.swap(i, j), 1);
                    dueRows("swap(" + i + ", " + j + ")", x, rows);
                }
            }
        }
        says(17, "UNKNOWN.");
        for (int n = 1; n <= 4; n++) {
            LiftedSystems x = drawn(n, 8);
            int[][] rows = rowsOf(x);
            due("one more", x.swap(n, 0), UNKNOWN);
            due("one more, behind", x.swap(0, n), UNKNOWN);
            due("one before", x.swap(-1, 0), UNKNOWN);
            due("one before, behind", x.swap(0, -1), UNKNOWN);
            due("one twice", x.swap(n - 1, n - 1), UNKNOWN);
            due("one twice, first", x.swap(0, 0), UNKNOWN);
            dueRows("refused", x, rows);
            if (n > 1) {
                due("the last two", x.swap(n - 1, n - 2), 1);
            }
        }
    }

    private static void mix() {
        says(18, "MIXED by t (-3 .. 3): 1.");
        LiftedSystems x = of(row(0, 0, 0), row(1, -1, 2));
        due("t 3", x.mix(0, 1, 3), 1);
        dueRows("t 3", x, row(3, -3, 6), row(1, -1, 2));
        due("t -3", x.mix(0, 1, -3), 1);
        dueRows("t -3", x, row(0, 0, 0), row(1, -1, 2));
        due("t 0", x.mix(0, 1, 0), 1);
        dueRows("t 0", x, row(0, 0, 0), row(1, -1, 2));
        due("t 4", x.mix(0, 1, 4), OUTSIDE);
        due("t -4", x.mix(0, 1, -4), OUTSIDE);
        says(18, "UNKNOWN, OUTSIDE,");
        for (int n = 1; n <= 4; n++) {
            LiftedSystems y = new LiftedSystems();
            y.size(n);
            due("one more", y.mix(n, 0, 1), UNKNOWN);
            due("one more, behind", y.mix(0, n, 1), UNKNOWN);
            due("one before", y.mix(-1, 0, 1), UNKNOWN);
            due("one before, behind", y.mix(0, -1, 1), UNKNOWN);
            due("one twice", y.mix(n - 1, n - 1, 1), UNKNOWN);
            due("one twice by 0", y.mix(0, 0, 0), UNKNOWN);
            if (n > 1) {
                due("t far out", y.mix(0, n - 1, GREATEST), OUTSIDE);
                due("t far below", y.mix(0, n - 1, LEAST), OUTSIDE);
                due("the last", y.mix(n - 1, 0, -3), 1);
            }
        }
        says(18, "FULL: a number would be out of its bounds.");
        fullByEachNumber();
    }

    /** Each number of a row, the side too, comes to its bound, and one step beyond it. */
    private static void fullByEachNumber() {
        for (int n = 2; n <= 4; n++) {
            for (int j = 0; j <= n; j++) {
                int bound = j == n ? 99 : 9;
                for (int t = -3; t <= 3; t++) {
                    if (t != 0) {
                        int greatest = bound - 2 * Math.abs(t);
                        dueMixed(n, j, t, greatest, Integer.signum(t) * 2, 1);
                        dueMixed(n, j, t, greatest + 1, Integer.signum(t) * 2, FULL);
                        dueMixed(n, j, t, -greatest, -Integer.signum(t) * 2, 1);
                        dueMixed(n, j, t, -greatest - 1, -Integer.signum(t) * 2, FULL);
                    }
                }
            }
        }
    }

    private static void dueMixed(int n, int j, int t, int v, int w, int want) {
        int[][] rows = new int[n][n + 1];
        rows[n - 1][j] = v;
        rows[0][j] = w;
        LiftedSystems x = Tables.of(rows);
        String call = "column " + j + " of " + n + ": " + v + " and " + t + " times " + w;
        due(call, x.mix(n - 1, 0, t), want);
        if (want == 1) {
            rows[n - 1][j] = v + t * w;
        }
        dueRows(call, x, rows);
    }

    private static void turn() {
        says(19, "TURNED (THE SIDE stays): RANK.");
        for (int n = 1; n <= 4; n++) {
            for (int rank = 0; rank <= n; rank++) {
                LiftedSystems x = new LiftedSystems();
                x.size(n);
                for (int i = rank; i < n; i++) {
                    x.put(i, i, 0);
                }
                if (n > 1) {
                    x.put(0, n - 1, rank == n ? 5 : 0);
                }
                x.side(0, -7);
                x.side(n - 1, 77);
                due("turn() of " + n + ", rank " + rank, x.turn(), rank);
                due("the side of row 0", x.at(0, n), n == 1 ? 177 : 93);
                due("the side of the last row", x.at(n - 1, n), 177);
            }
        }
    }

    private static void prime() {
        says(20, "THE PRIME is that with number k (0 .. 24): p.");
        LiftedSystems x = new LiftedSystems();
        due("number 0", x.prime(0), 2);
        due("told(1)", x.told(1), 2);
        due("number 24", x.prime(24), 97);
        due("told(1)", x.told(1), 97);
        due("number 23", x.prime(23), 89);
        says(20, "OUTSIDE.");
        int[] beyond = {-1, 25, 97, LEAST, GREATEST};
        for (int k : beyond) {
            due("prime(" + k + ")", x.prime(k), OUTSIDE);
            due("it stays", x.told(1), 89);
        }
    }

    private static void drift() {
        says(21, "n times BY DRAWS (1 .. 12): RANK.");
        for (int n = 1; n <= 12; n++) {
            LiftedSystems x = new LiftedSystems();
            LiftedSystems y = new LiftedSystems();
            x.size(4);
            y.size(4);
            int rank = 0;
            for (int time = 0; time < n; time++) {
                rank = x.drift(1);
            }
            due("drift(" + n + ") is so many times drift(1)", y.drift(n), rank);
            dueRows("drift(" + n + ")", y, rowsOf(x));
            due("the seed", y.seed(0), x.seed(0));
            due("RANK", y.told(3), rank);
        }
        LiftedSystems z = new LiftedSystems();
        z.size(1);
        for (int time = 0; time < 100; time++) {
            due("RANK of one number", z.drift(1), z.at(0, 0) == 100 ? 0 : 1);
        }
        says(21, "OUTSIDE.");
        LiftedSystems w = new LiftedSystems();
        int[] beyond = {0, 13, -1, LEAST, GREATEST};
        for (int n : beyond) {
            due("drift(" + n + ")", w.drift(n), OUTSIDE);
        }
        dueRows("refused", w, row(1, 0, 0), row(0, 1, 0));
        due("the seed stays", w.seed(0), 0);
    }
}
