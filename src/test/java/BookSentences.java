/** The term THE BOOK, and promises 23 and 24: write, tear. */
final class BookSentences extends Sentences {
    private BookSentences() {
    }

    static void test() {
        wrong();
        write();
        tear();
    }

    private static void wrong() {
        says(TERMS, "THE BOOK (20 at most) tells a digit k of an X: WRONG: the first that is otherwise now (no such X, p BAD: it is, too); NONE.");
        LiftedSystems x = of(row(1, 0, -1), row(0, 2, 1));
        due("no book", x.told(16), NONE);
        int[][] right = {{0, 0, 6}, {0, 99, 6}, {1, 0, 4}, {1, 1, 3}, {1, 99, 3}};
        for (int e = 0; e < 20; e++) {
            int[] entry = right[e % right.length];
            due("entry " + e, x.write(entry[0], entry[1], entry[2]), e + 1);
            due("all are so", x.told(16), NONE);
        }
        due("a 21st", x.write(0, 0, 0), FULL);
        due("still all are so", x.told(16), NONE);
        x.side(1, 2);
        due("X 1 is 1 now: the first of it", x.told(16), 2);
        x.side(0, 0);
        due("X 0 is 0 now: the first of it", x.told(16), 0);
        x.undo(2);
        due("as it was", x.told(16), NONE);
        x.size(1);
        x.side(0, -1);
        due("no X 1: the first of it", x.told(16), 2);
        x.put(0, 0, 7);
        due("p BAD: the first of all", x.told(16), 0);
        x.put(0, 0, 1);
        due("not BAD", x.told(16), 2);
        x.undo(4);
        due("as it was", x.told(16), NONE);
        eachEntryWrong();
        for (int n = 2; n <= 4; n++) {
            LiftedSystems gone = new LiftedSystems();
            gone.size(n);
            gone.write(n - 1, 0, 0);
            due("X " + (n - 1) + " is 0", gone.told(16), NONE);
            gone.size(n - 1);
            due("there is no X " + (n - 1) + ", though all digits are 0", gone.told(16), 0);
            gone.size(n);
            due("there is again", gone.told(16), NONE);
        }
        LiftedSystems bad = one(7, 1);
        due("p BAD, but no book", bad.told(16), NONE);
        bad.write(0, 0, 0);
        due("p BAD", bad.told(16), 0);
    }

    private static void eachEntryWrong() {
        for (int wrong = 0; wrong < 20; wrong++) {
            LiftedSystems x = of(row(1, 0, -1), row(0, 2, 1));
            for (int e = 0; e < 20; e++) {
                x.write(0, 99 - 5 * e, e >= wrong ? 5 : 6);
            }
            due("from entry " + wrong + " on", x.told(16), wrong);
        }
        int[] values = {-1, 7, 5, LEAST, GREATEST, 13};
        for (int v : values) {
            LiftedSystems x = one(1, -1);
            x.write(0, 99, v);
            due("6 is not " + v, x.told(16), 0);
        }
    }

    private static void write() {
        says(23, "An entry behind THE BOOK (digit k, 0 .. 99, of X j is v, any): how many.");
        LiftedSystems x = one(1, 0);
        due("digit 0", x.write(0, 0, 0), 1);
        due("digit 99", x.write(0, 99, 0), 2);
        due("both are so", x.told(16), NONE);
        due("v far out", x.write(0, 50, GREATEST), 3);
        due("v far below", x.write(0, 50, LEAST), 4);
        due("behind", x.told(16), 2);
        due("digit 100", x.write(0, 100, 0), OUTSIDE);
        due("digit -1", x.write(0, -1, 0), OUTSIDE);
        due("so many", x.told(15), 4);
        says(23, "UNKNOWN, OUTSIDE, FULL (20).");
        for (int n = 1; n <= 4; n++) {
            LiftedSystems y = new LiftedSystems();
            y.size(n);
            due("one more", y.write(n, 0, 0), UNKNOWN);
            due("one before", y.write(-1, 0, 0), UNKNOWN);
            due("far out", y.write(0, GREATEST, 0), OUTSIDE);
            due("far below", y.write(0, LEAST, 0), OUTSIDE);
            for (int e = 1; e <= 20; e++) {
                due("the last X", y.write(n - 1, 0, 0), e);
            }
            due("a 21st", y.write(n - 1, 0, 0), FULL);
            due("20 of them", y.told(15), 20);
        }
        LiftedSystems bad = one(0, 1);
        due("p BAD does not matter", bad.write(0, 5, 5), 1);
    }

    private static void tear() {
        says(24, "No BOOK: how much it had.");
        for (int had = 0; had <= 20; had++) {
            LiftedSystems x = one(1, 0);
            for (int e = 0; e < had; e++) {
                x.write(0, 0, 1);
            }
            due("tear()", x.tear(), had);
            due("told(15)", x.told(15), 0);
            due("told(16)", x.told(16), NONE);
            due("tear() again", x.tear(), 0);
            due("from the first on", x.write(0, 0, 1), 1);
            due("told(16)", x.told(16), 0);
        }
    }
}
