/** Promises 23 and 24: write, tear; and WRONG of promise 2. */
public final class BookTest {
    private static final int NONE = LiftedSystems.NONE;
    private static final int UNKNOWN = LiftedSystems.UNKNOWN;
    private static final int OUTSIDE = LiftedSystems.OUTSIDE;
    private static final int FULL = LiftedSystems.FULL;

    public static void main(String[] args) {
        writes();
        judged();
        badAndGone();
        stays();
        Check.end();
    }

    private static void due(String call, long got, long want) {
        Check.due(call, got, want);
    }

    private static void writes() {
        LiftedSystems x = new LiftedSystems();
        due("write(2, 0, 0)", x.write(2, 0, 0), UNKNOWN);
        due("write(-1, 100, 0): UNKNOWN goes first", x.write(-1, 100, 0), UNKNOWN);
        due("write(0, 100, 0)", x.write(0, 100, 0), OUTSIDE);
        due("write(0, -1, 0)", x.write(0, -1, 0), OUTSIDE);
        due("told(15)", x.told(15), 0);
        for (int count = 1; count <= 20; count++) {
            due("write", x.write(count % 2, count % 2 == 0 ? 0 : 99, 0), count);
            due("told(15)", x.told(15), count);
        }
        due("write of a 21st", x.write(0, 0, 0), FULL);
        due("UNKNOWN goes ahead of FULL", x.write(2, 0, 0), UNKNOWN);
        due("OUTSIDE goes ahead of FULL", x.write(0, 100, 0), OUTSIDE);
        due("told(16)", x.told(16), NONE);
        due("tear()", x.tear(), 20);
        due("told(15)", x.told(15), 0);
        due("tear()", x.tear(), 0);
        due("write(1, 5, 3)", x.write(1, 5, 3), 1);
        due("told(16)", x.told(16), 0);
    }

    private static void judged() {
        // -1 by 7: 6 6 6 ..; 1/2 by 7: 4 3 3 3 ..
        LiftedSystems x = Tables.of(Tables.row(1, 0, -1), Tables.row(0, 2, 1));
        x.write(0, 99, 6);
        x.write(1, 0, 4);
        x.write(1, 99, 3);
        due("all are so", x.told(16), NONE);
        x.write(1, 3, Integer.MIN_VALUE);
        x.write(0, 0, 0);
        due("the first in the book, not by its digit", x.told(16), 3);
        x.side(1, 2);
        // Now X 1 is 1: digits 1 0 0 ..
        due("otherwise now", x.told(16), 1);
        x.side(0, 0);
        due("otherwise now", x.told(16), 0);
        x.undo(2);
        due("as before", x.told(16), 3);
        x.tear();
        x.write(0, 0, 6);
        x.write(0, 1, 13);
        due("a value is no left over", x.told(16), 1);
    }

    private static void badAndGone() {
        LiftedSystems x = new LiftedSystems();
        x.write(0, 0, 0);
        x.write(1, 0, 0);
        x.write(0, 0, 1);
        due("told(16)", x.told(16), 2);
        x.size(1);
        due("no such X", x.told(16), 1);
        x.put(0, 0, 7);
        due("p is BAD", x.told(16), 0);
        x.prime(2);
        due("p is not BAD", x.told(16), 1);
        x.tear();
        x.prime(3);
        due("p is BAD, but there is no entry", x.told(16), NONE);
    }

    private static void stays() {
        LiftedSystems x = new LiftedSystems();
        x.keep(1);
        x.write(0, 0, 0);
        due("goBack(1)", x.goBack(1), 1);
        due("the book is in no image", x.told(15), 1);
        x.drift(5);
        x.undo(5);
        due("nor is it undone", x.told(15), 1);
    }
}
