import java.util.Arrays;

/** The terms of the first part, and promises 1 to 6: a new object, told, at, cleared, solution, nothing. */
final class TableSentences extends Sentences {
    private static final int GREATEST_DETERMINANT = 16 * 9 * 9 * 9 * 9;

    private TableSentences() {
    }

    static void test() {
        size();
        table();
        side();
        unknowns();
        determinant();
        leading();
        rank();
        wideRank();
        cleared();
        broken();
        kind();
        solution();
        nothing();
        newObject();
        told();
        at();
        clearedCall();
        solutionCall();
        nothingCall();
    }

    /** The table whose determinant is the greatest there is; 'sign' turns it into the least. */
    private static LiftedSystems greatest(int sign) {
        int s = 9 * sign;
        return of(row(s, s, s, s, 99), row(9, -9, 9, -9, -99), row(9, 9, -9, -9, -99), row(9, -9, -9, 9, -99));
    }

    /** N is n; the last 'rank' rows have a 1 each, from the first column on. */
    private static LiftedSystems ofRank(int n, int rank) {
        int[][] rows = new int[n][n + 1];
        for (int r = 0; r < rank; r++) {
            rows[n - 1 - r][r] = 1;
        }
        return Tables.of(rows);
    }

    private static void size() {
        says(TERMS, "N (1 .. 4; 2 at first).");
        LiftedSystems x = new LiftedSystems();
        due("told(0)", x.told(0), 2);
        due("size(1)", x.size(1), 2);
        due("told(0)", x.told(0), 1);
        due("size(0)", x.size(0), OUTSIDE);
        due("told(0)", x.told(0), 1);
        due("size(4)", x.size(4), 1);
        due("told(0)", x.told(0), 4);
        due("size(5)", x.size(5), OUTSIDE);
        due("told(0)", x.told(0), 4);
    }

    private static void table() {
        says(TERMS, "THE TABLE: N ROWS and N COLUMNS of numbers A i j (ROW i, COLUMN j; -9 .. 9; at first 1 where i is j, else 0).");
        dueRows("at first", new LiftedSystems(), row(1, 0, 0), row(0, 1, 0));
        for (int n = 1; n <= 4; n++) {
            LiftedSystems x = new LiftedSystems();
            x.size(n);
            due("the last row and column", x.at(n - 1, n - 1), 101);
            due("a row more", x.at(n, 0), UNKNOWN);
            due("a row before", x.at(-1, 0), UNKNOWN);
            due("a column more than the side", x.at(0, n + 1), UNKNOWN);
            for (int i = 0; i < n; i++) {
                for (int j = 0; j < n; j++) {
                    numberBounds(n, i, j);
                }
            }
        }
    }

    private static void numberBounds(int n, int i, int j) {
        LiftedSystems x = new LiftedSystems();
        x.size(n);
        int[][] rows = rowsOf(x);
        String where = "(" + i + ", " + j + ", ";
        due("put" + where + "-10)", x.put(i, j, -10), OUTSIDE);
        due("put" + where + "10)", x.put(i, j, 10), OUTSIDE);
        dueRows("refused", x, rows);
        x.put(i, j, -9);
        rows[i][j] = -9;
        dueRows("put" + where + "-9)", x, rows);
        x.put(i, j, 9);
        rows[i][j] = 9;
        dueRows("put" + where + "9)", x, rows);
    }

    private static void side() {
        says(TERMS, "THE SIDE: a number B i of each ROW (-99 .. 99; 0 at first).");
        for (int n = 1; n <= 4; n++) {
            LiftedSystems x = new LiftedSystems();
            x.size(n);
            for (int i = 0; i < n; i++) {
                int[][] rows = rowsOf(x);
                due("at first", x.at(i, n), 100);
                due("side(" + i + ", -100)", x.side(i, -100), OUTSIDE);
                due("side(" + i + ", 100)", x.side(i, 100), OUTSIDE);
                dueRows("refused", x, rows);
                x.side(i, -99);
                rows[i][n] = -99;
                dueRows("side(" + i + ", -99)", x, rows);
                x.side(i, 99);
                rows[i][n] = 99;
                dueRows("side(" + i + ", 99)", x, rows);
            }
            due("a side more", x.side(n, 0), UNKNOWN);
            due("a side before", x.side(-1, 0), UNKNOWN);
        }
    }

    private static void unknowns() {
        says(TERMS, "UNKNOWNS X 0 to N less 1: for each ROW i the sum of all A i j times X j is to be B i.");
        for (int n = 1; n <= 4; n++) {
            LiftedSystems x = new LiftedSystems();
            x.size(n);
            due("X -1", x.solution(-1, 1), UNKNOWN);
            due("X 0", x.solution(0, 1), 1);
            due("X N less 1", x.solution(n - 1, 1), 1);
            due("X N", x.solution(n, 1), UNKNOWN);
            for (int seed = 0; seed < 60; seed++) {
                sums(drawn(n, seed));
            }
        }
    }

    private static void sums(LiftedSystems x) {
        int[][] rows = rowsOf(x);
        int n = rows.length;
        if (x.told(5) == 0) {
            due("none", x.solution(0, 0), NONE);
            return;
        }
        for (int i = 0; i < n; i++) {
            Ratio sum = Ratio.of(-rows[i][n], 1);
            for (int j = 0; j < n; j++) {
                sum = sum.plus(Ratio.of(x.solution(j, 0) - P, x.solution(j, 1)).times(rows[i][j]));
            }
            holds("the sum of row " + i + " less the side is " + sum, sum.isZero());
        }
    }

    private static void determinant() {
        says(TERMS, "DETERMINANT: of THE TABLE.");
        due("of one number", one(9, 99).told(2), P + 9);
        due("of one number below 0", one(-9, 99).told(2), P - 9);
        due("of 0", one(0, 99).told(2), P);
        due("9 9 / -9 9", of(row(9, 9, 5), row(-9, 9, 5)).told(2), P + 162);
        due("9 9 / 9 9", of(row(9, 9, 5), row(9, 9, 6)).told(2), P);
        due("of three", of(row(0, 0, 2, 1), row(0, 3, 7, 1), row(5, 8, 9, 1)).told(2), P - 30);
        due("the greatest", greatest(1).told(2), P + GREATEST_DETERMINANT);
        due("the least", greatest(-1).told(2), P - GREATEST_DETERMINANT);
        for (int n = 1; n <= 4; n++) {
            orders(n, new int[n], 0, 1);
        }
    }

    /** One number in each row and column, in every order: the sign is that of the order. */
    private static void orders(int n, int[] columns, int chosen, int sign) {
        if (chosen == n) {
            int[][] rows = new int[n][n + 1];
            int product = sign;
            for (int i = 0; i < n; i++) {
                rows[i][columns[i]] = i + 2;
                product *= i + 2;
            }
            due("the columns in the order " + Arrays.toString(columns), Tables.of(rows).told(2), P + product);
            return;
        }
        for (int j = 0; j < n; j++) {
            int greaterAhead = 0;
            boolean isFree = true;
            for (int i = 0; i < chosen; i++) {
                isFree &= columns[i] != j;
                greaterAhead += columns[i] > j ? 1 : 0;
            }
            if (isFree) {
                columns[chosen] = j;
                orders(n, columns, chosen + 1, greaterAhead % 2 == 0 ? sign : -sign);
            }
        }
    }

    private static void leading() {
        says(TERMS, "LEADING: COLUMNS that are no sum of multiples (by fractions) of COLUMNS ahead of them (so one of zeros never is).");
        due("one of zeros", one(0, 5).told(6), 0);
        due("one that is not", one(-1, 5).told(6), 1);
        due("zeros ahead", of(row(0, 1, 0), row(0, 2, 0)).told(6), 2);
        due("zeros behind", of(row(1, 0, 0), row(2, 0, 0)).told(6), 1);
        due("3 by 2 of that ahead", of(row(2, 3, 0), row(4, 6, 0)).told(6), 1);
        due("one step beside", of(row(2, 3, 0), row(4, 7, 0)).told(6), 3);
        due("a sum of two", of(row(1, 0, 1, 0), row(0, 1, 1, 0), row(1, 1, 2, 0)).told(6), 3);
        due("no such sum", of(row(1, 0, 1, 0), row(0, 1, 1, 0), row(1, 1, 1, 0)).told(6), 7);
        due("a multiple of one behind alone leads", of(row(2, 1, 0, 0), row(2, 1, 0, 0), row(0, 0, 3, 0)).told(6), 5);
        due("the last alone", of(row(0, 0, 0, 0, 1), row(0, 0, 0, 7, 1), row(0, 0, 0, 0, 1), row(0, 0, 0, 0, 1)).told(6), 8);
        due("the side is none", of(row(0, 0, 5), row(0, 0, 6)).told(6), 0);
    }

    private static void rank() {
        says(TERMS, "RANK: how many.");
        for (int n = 1; n <= 4; n++) {
            for (int rank = 0; rank <= n; rank++) {
                LiftedSystems x = ofRank(n, rank);
                due(rank + " of " + n, x.told(3), rank);
                due("so many bits", Integer.bitCount(x.told(6)), rank);
            }
        }
    }

    private static void wideRank() {
        says(TERMS, "WIDE RANK: RANK, THE SIDE being one COLUMN more.");
        for (int n = 1; n <= 4; n++) {
            for (int rank = 0; rank <= n; rank++) {
                LiftedSystems x = ofRank(n, rank);
                due("a side of zeros", x.told(4), rank);
                x.side(n - 1, 5);
                due("a side that is a multiple, if there is one", x.told(4), Math.max(rank, 1));
                x.side(0, 1);
                due("a number more in row 0, " + rank + " of " + n, x.told(4), Math.min(n, Math.max(rank + (rank < n ? 1 : 0), 1)));
                due("the rank stays", x.told(3), rank);
            }
        }
    }

    private static void cleared() {
        says(TERMS, "CLEARED: a ROW of fractions for each LEADING COLUMN, rising, with 1 in this one and 0 in all other LEADING ones, "
            + "such that each ROW of THE TABLE is a sum of multiples of them.");
        for (int n = 1; n <= 4; n++) {
            for (int seed = 0; seed < 60; seed++) {
                clearedOf(drawn(n, seed));
            }
        }
        clearedOf(greatest(1));
        clearedOf(of(row(0, 2, 4, -3, 1), row(0, 4, 8, -6, 2), row(0, 0, 0, 0, 3), row(0, 1, 2, 5, 4)));
    }

    private static void clearedOf(LiftedSystems x) {
        int[][] rows = rowsOf(x);
        int n = rows.length;
        int[] leads = new int[x.told(3)];
        int count = 0;
        for (int j = 0; j < n; j++) {
            if ((x.told(6) >> j & 1) == 1) {
                leads[count++] = j;
            }
        }
        for (int j = 0; j < n; j++) {
            for (int r = 0; r < leads.length; r++) {
                if ((x.told(6) >> j & 1) == 1) {
                    due("1 in this one, 0 in the others", x.cleared(r, j, 0), P + (leads[r] == j ? 1 : 0));
                    due("below", x.cleared(r, j, 1), 1);
                } else if (leads[r] > j) {
                    due("0 ahead of it", x.cleared(r, j, 0), P);
                }
            }
            for (int i = 0; i < n; i++) {
                // In leading column r only row r has a number: so the multiples are the row's own numbers there.
                Ratio sum = Ratio.of(-rows[i][j], 1);
                for (int r = 0; r < leads.length; r++) {
                    sum = sum.plus(Ratio.of(x.cleared(r, j, 0) - P, x.cleared(r, j, 1)).times(rows[i][leads[r]]));
                }
                holds("row " + i + ", column " + j + " is a sum of multiples", sum.isZero());
            }
        }
    }

    private static void broken() {
        says(TERMS, "BROKEN: how many of these have a number in them that is not whole.");
        due("of full rank none", greatest(1).told(7), 0);
        due("there is none", one(0, 1).told(7), 0);
        due("the side does not count", one(2, 1).told(7), 0);
        due("whole", of(row(1, 2, 0), row(0, 0, 0)).told(7), 0);
        due("2 by 2 is whole", of(row(2, 2, 0), row(0, 0, 0)).told(7), 0);
        due("3 by 2 is not", of(row(2, 3, 0), row(0, 0, 0)).told(7), 1);
        due("-1 by 2 is not", of(row(-2, 1, 0), row(0, 0, 0)).told(7), 1);
        due("one of two", of(row(2, 0, 2, 0), row(0, 2, 1, 0), row(0, 0, 0, 0)).told(7), 1);
        due("two numbers of one row", of(row(2, 1, 1, 0), row(0, 0, 0, 0), row(0, 0, 0, 0)).told(7), 1);
        due("the last number alone", of(row(2, 2, 1, 0), row(0, 0, 0, 0), row(0, 0, 0, 0)).told(7), 1);
        due("three", of(row(2, 0, 0, 1, 0), row(0, 2, 0, 1, 0), row(0, 0, 2, 1, 0), row(0, 0, 0, 0, 0)).told(7), 3);
    }

    private static void kind() {
        says(TERMS, "KIND: 0, if WIDE RANK is more than RANK (there's no solution); 1, if RANK is N (one); else 2 (many).");
        for (int n = 1; n <= 4; n++) {
            for (int rank = 0; rank <= n; rank++) {
                LiftedSystems x = ofRank(n, rank);
                due("rank " + rank + " of " + n, x.told(5), rank == n ? 1 : 2);
                x.side(0, 1);
                due("rank " + rank + " of " + n + ", 1 in a row of zeros, if there is one", x.told(5), rank == n ? 1 : 0);
            }
        }
        LiftedSystems y = of(row(1, 2, 3), row(2, 4, 6));
        due("the side as the rows", y.told(5), 2);
        y.side(1, 7);
        due("one step beside", y.told(5), 0);
        y.put(1, 1, 5);
        due("of full rank", y.told(5), 1);
    }

    private static void solution() {
        says(TERMS, "SOLUTION: of KIND 1 the one, of KIND 2 that in which the X of all COLUMNS that are not LEADING are 0.");
        LiftedSystems x = of(row(1, 2, 4), row(3, 5, 9));
        int[] one = {-2, 3};
        for (int j = 0; j < 2; j++) {
            due("the one: X " + j, x.solution(j, 0), P + one[j]);
            due("the one: X " + j + ", below", x.solution(j, 1), 1);
        }
        // Columns 1 and 3 lead, 0 and 2 do not.
        LiftedSystems many = of(row(0, 2, 6, 0, 5), row(0, 0, 0, 3, -7), row(0, 2, 6, 3, -2), row(0, 0, 0, 0, 0));
        int[] above = {0, 5, 0, -7};
        int[] below = {1, 2, 1, 3};
        for (int j = 0; j < 4; j++) {
            due("many: X " + j, many.solution(j, 0), P + above[j]);
            due("many: X " + j + ", below", many.solution(j, 1), below[j]);
        }
        LiftedSystems zeros = one(0, 0);
        due("none leads", zeros.solution(0, 0), P);
        due("none leads, below", zeros.solution(0, 1), 1);
    }

    private static void nothing() {
        says(TERMS, "NOTHING, if RANK is less than N: whole numbers Z j, so that for each ROW the sum of A i j times Z j is 0: "
            + "with 1 for the first COLUMN that is not LEADING, 0 for others that are not, and then all times the least whole "
            + "number above 0 by which all are whole.");
        dueNothing(of(row(1, 2, 9), row(2, 4, 9)), -2, 1);
        dueNothing(of(row(2, 3, 9), row(4, 6, 9)), -3, 2);
        dueNothing(of(row(-2, 3, 0), row(0, 0, 0)), 3, 2);
        dueNothing(of(row(0, 5, 0), row(0, 6, 0)), 1, 0);
        dueNothing(one(0, 7), 1);
        // 3/4 and -5/6: by 12, not by 24; 1/2 and 3/2: by 2, not by 4.
        dueNothing(of(row(4, 0, 3, 0), row(0, 6, -5, 0), row(0, 0, 0, 0)), -9, 10, 12);
        dueNothing(of(row(2, 0, 1, 0), row(0, 2, 3, 0), row(2, 2, 4, 0)), -1, -3, 2);
        dueNothing(of(row(2, 3, 0, 5, 0), row(0, 0, 7, 1, 0), row(0, 0, 0, 0, 0), row(0, 0, 0, 0, 0)), -3, 2, 0, 0);
        dueNothing(of(row(0, 0, 0, 0, 0), row(0, 0, 0, 0, 0), row(0, 0, 0, 0, 0), row(0, 0, 0, 0, 0)), 1, 0, 0, 0);
        dueNothing(of(row(9, 0, 0, 1, 0), row(0, 8, 0, 1, 0), row(0, 0, 7, 1, 0), row(0, 0, 0, 0, 0)), -56, -63, -72, 504);
        due("of full rank there is none", of(row(2, 3, 0), row(4, 7, 0)).nothing(0), NONE);
    }

    private static void dueNothing(LiftedSystems x, int... z) {
        for (int j = 0; j < z.length; j++) {
            due("nothing(" + j + ")", x.nothing(j), P + z[j]);
        }
    }

    private static void newObject() {
        says(1, "As told at first.");
        LiftedSystems x = new LiftedSystems();
        dueRows("new", x, row(1, 0, 0), row(0, 1, 0));
        int[] told = {2, 7, P + 1, 2, 2, 1, 3, 0, 0, 0, 2, 1, 1, 1, 0, 0, NONE, 0};
        for (int what = 0; what < told.length; what++) {
            due("told(" + what + ")", x.told(what), told[what]);
        }
        due("no deed", x.undo(1), NOT);
        due("no image 0", x.goBack(0), NOT);
        due("no image 1", x.goBack(1), NOT);
        due("no book", x.tear(), 0);
        due("the seed", x.seed(1), 0);
        LiftedSystems y = new LiftedSystems();
        due("objects stand apart", y.seed(1), 0);
    }

    private static void told() {
        says(2, "0 N, 1 p, 2 DETERMINANT and PLUS, 3 RANK, 4 WIDE RANK, 5 KIND, 6 LEADING (a SET), 7 BROKEN, 8 1 p is BAD, 0 not, "
            + "9 how many of the 25 PRIMES are BAD, 10 MODULO RANK, 11 WAYS, 12 SURE, 13 EARLY, 14 TOO SOON");
        // Columns 0 and 2 lead; all rows are multiples of 1 1/2 0 1/2 and 0 0 1 3.
        LiftedSystems x = of(row(2, 1, 0, 1, 0), row(0, 0, 1, 3, 0), row(2, 1, 1, 4, 0), row(0, 0, 0, 0, 1));
        x.prime(2);
        x.write(0, 0, 0);
        int[] told = {4, 5, P, 2, 3, 0, 5, 1, 1, 25, 2, 0, NONE, NONE, NONE, 1, 0, 16};
        for (int what = 0; what < told.length; what++) {
            due("told(" + what + ")", x.told(what), told[what]);
        }
        // 8 by 7: 2 (1 and 64) is less than 343; by 1 digit it looks like 1.
        LiftedSystems y = one(1, 8);
        int[] more = {1, 7, P + 1, 1, 1, 1, 1, 0, 0, 0, 1, 1, 3, 3, 1};
        for (int what = 0; what < more.length; what++) {
            due("y: told(" + what + ")", y.told(what), more[what]);
        }
        says(2, "(12 to 14: NONE: p is BAD)");
        LiftedSystems z = one(7, 8);
        for (int what = 12; what <= 14; what++) {
            due("by 7: told(" + what + ")", z.told(what), NONE);
        }
        z.prime(2);
        for (int what = 12; what <= 14; what++) {
            holds("by 5: told(" + what + ")", z.told(what) >= 0);
        }
        says(2, ", 15 entries of THE BOOK, 16 WRONG, 17 how many can be undone.");
        LiftedSystems w = new LiftedSystems();
        w.write(0, 0, 0);
        w.write(0, 1, 0);
        w.write(0, 2, 9);
        w.prime(3);
        int[] last = {3, 2, 1};
        for (int what = 15; what <= 17; what++) {
            due("w: told(" + what + ")", w.told(what), last[what - 15]);
        }
        says(2, "OUTSIDE.");
        int[] beyond = {-1, 18, LEAST, GREATEST};
        for (int what : beyond) {
            due("told(" + what + ")", w.told(what), OUTSIDE);
        }
        due("told(0) is within", w.told(0), 2);
        due("told(17) is within", w.told(17), 1);
    }

    private static void at() {
        says(3, "A i j and 100; with j N: B i and 100.");
        for (int n = 1; n <= 4; n++) {
            LiftedSystems x = new LiftedSystems();
            x.size(n);
            x.put(n - 1, n - 1, -9);
            x.side(n - 1, -99);
            due("the least", x.at(n - 1, n - 1), 91);
            due("the least of the side", x.at(n - 1, n), 1);
            x.put(n - 1, n - 1, 9);
            x.side(n - 1, 99);
            due("the greatest", x.at(n - 1, n - 1), 109);
            due("the greatest of the side", x.at(n - 1, n), 199);
        }
        says(3, "UNKNOWN.");
        for (int n = 1; n <= 4; n++) {
            LiftedSystems x = new LiftedSystems();
            x.size(n);
            int[] noRow = {-1, n, LEAST, GREATEST};
            for (int i : noRow) {
                due("N " + n + ": at(" + i + ", 0)", x.at(i, 0), UNKNOWN);
            }
            int[] noColumn = {-1, n + 1, LEAST, GREATEST};
            for (int j : noColumn) {
                due("N " + n + ": at(0, " + j + ")", x.at(0, j), UNKNOWN);
            }
            due("N " + n + ": at(N less 1, N)", x.at(n - 1, n), 100);
        }
    }

    private static void clearedCall() {
        says(4, "Of a number of CLEARED: what = 0 ABOVE and PLUS, 1 BELOW, of its ROW r, COLUMN j.");
        LiftedSystems x = of(row(9, 0, 0, -8, 0), row(0, 7, 0, 5, 0), row(0, 0, -4, 6, 0), row(0, 0, 0, 0, 0));
        int[] above = {-8, 5, -3};
        int[] below = {9, 7, 2};
        for (int r = 0; r < 3; r++) {
            due("cleared(" + r + ", 3, 0)", x.cleared(r, 3, 0), P + above[r]);
            due("cleared(" + r + ", 3, 1)", x.cleared(r, 3, 1), below[r]);
            due("cleared(" + r + ", " + r + ", 0)", x.cleared(r, r, 0), P + 1);
        }
        says(4, "UNKNOWN (r: RANK of them), OUTSIDE.");
        for (int n = 1; n <= 4; n++) {
            for (int rank = 0; rank <= n; rank++) {
                LiftedSystems y = ofRank(n, rank);
                if (rank > 0) {
                    due("the last row", y.cleared(rank - 1, rank - 1, 0), P + 1);
                    due("the last column", y.cleared(0, n - 1, 1), 1);
                    due("one column more", y.cleared(0, n, 1), UNKNOWN);
                    due("a column before", y.cleared(0, -1, 1), UNKNOWN);
                    due("what -1", y.cleared(0, 0, -1), OUTSIDE);
                    due("what 2", y.cleared(0, 0, 2), OUTSIDE);
                }
                due("one row more", y.cleared(rank, 0, 0), UNKNOWN);
                due("a row before", y.cleared(-1, 0, 0), UNKNOWN);
            }
        }
    }

    private static void solutionCall() {
        says(5, "Of X j of the SOLUTION: what = 0 ABOVE and PLUS, 1 BELOW; NONE: there is none.");
        LiftedSystems x = one(9, -98);
        due("solution(0, 0)", x.solution(0, 0), P - 98);
        due("solution(0, 1)", x.solution(0, 1), 9);
        x.put(0, 0, 0);
        due("none: solution(0, 0)", x.solution(0, 0), NONE);
        due("none: solution(0, 1)", x.solution(0, 1), NONE);
        // The cofactors of column 0 are 2610, 2311, -2772, -2763, the determinant is 1.
        LiftedSystems far = of(row(-3, -8, -9, 9, 99), row(-5, 9, 9, 9, 99), row(-5, -9, 8, 9, -99), row(-2, 9, -9, 7, -99));
        due("far out: solution(0, 0)", far.solution(0, 0), P + 1035144);
        due("far out: solution(0, 1)", far.solution(0, 1), 1);
        says(5, "UNKNOWN, OUTSIDE.");
        for (int n = 1; n <= 4; n++) {
            LiftedSystems y = ofRank(n, n);
            due("the last", y.solution(n - 1, 0), P);
            due("one more", y.solution(n, 0), UNKNOWN);
            due("one before", y.solution(-1, 0), UNKNOWN);
            due("what -1", y.solution(n - 1, -1), OUTSIDE);
            due("what 2", y.solution(n - 1, 2), OUTSIDE);
            y.put(0, n - 1, 0);
            y.side(0, 1);
            due("there is none", y.solution(n - 1, 1), NONE);
            due("there is none, one more", y.solution(n, 1), UNKNOWN);
            due("there is none, what 2", y.solution(n - 1, 2), OUTSIDE);
        }
    }

    private static void nothingCall() {
        says(6, "Z j and PLUS of NOTHING; NONE: RANK is N.");
        for (int n = 1; n <= 4; n++) {
            due("rank is N", ofRank(n, n).nothing(n - 1), NONE);
            due("rank is N less 1", ofRank(n, n - 1).nothing(n - 1), P + 1);
            due("rank is 0", ofRank(n, 0).nothing(0), P + 1);
        }
        due("below 0", of(row(1, 9, 0), row(0, 0, 0)).nothing(0), P - 9);
        says(6, "UNKNOWN.");
        for (int n = 1; n <= 4; n++) {
            for (int rank = n - 1; rank <= n; rank++) {
                LiftedSystems x = ofRank(n, rank);
                due("one more", x.nothing(n), UNKNOWN);
                due("one before", x.nothing(-1), UNKNOWN);
                due("far out", x.nothing(GREATEST), UNKNOWN);
            }
        }
    }
}
