/** Promises 11 to 13: near, shortly, cut. */
public final class NearTest {
    private static final int NONE = LiftedSystems.NONE;
    private static final int UNKNOWN = LiftedSystems.UNKNOWN;
    private static final long C = 3000000000L;

    public static void main(String[] args) {
        knownBits();
        allSmallFractions();
        cuts();
        noneAndMany();
        refusals();
        Check.end();
    }

    private static void due(String call, long got, long want) {
        Check.due(call, got, want);
    }

    private static void knownBits() {
        LiftedSystems x = Tables.of(new int[][] {{3, 1}});
        due("1/3: near(0)", x.near(0), 0x3fd5555555555555L);
        due("1/3: shortly(0)", x.shortly(0), 0x3eaaaaabL);
        due("1/3: cut(0)", x.cut(0), C + 333);
        x.side(0, -1);
        due("-1/3: near(0)", x.near(0), 0xbfd5555555555555L);
        due("-1/3: shortly(0)", x.shortly(0), 0xbeaaaaabL);
        due("-1/3: cut(0)", x.cut(0), C - 333);
        x.side(0, 2);
        due("2/3 is rounded up: near(0)", x.near(0), 0x3fe5555555555555L);
        x.side(0, 0);
        due("0: near(0)", x.near(0), 0);
        due("0: shortly(0)", x.shortly(0), 0);
        due("0: cut(0)", x.cut(0), C);
        x.put(0, 0, -9);
        due("0 by -9: near(0)", x.near(0), 0);
        x.put(0, 0, 1);
        x.side(0, 1);
        due("1: near(0)", x.near(0), 0x3ff0000000000000L);
        due("1: shortly(0)", x.shortly(0), 0x3f800000L);
        x.side(0, -99);
        due("-99: near(0)", x.near(0), 0xc058c00000000000L);
        due("-99: shortly(0)", x.shortly(0), 0xc2c60000L);
        due("-99: cut(0)", x.cut(0), C - 99000);
    }

    private static void allSmallFractions() {
        for (int a = -9; a <= 9; a++) {
            if (a == 0) {
                continue;
            }
            for (int b = -99; b <= 99; b++) {
                LiftedSystems x = Tables.of(new int[][] {{a, b}});
                // 0.0 put ahead makes 0 of what would be 0 below 0.
                double nearest = 0.0 + (double) b / a;
                due(b + " by " + a + ": near", x.near(0), Double.doubleToRawLongBits(nearest));
                due(b + " by " + a + ": shortly", x.shortly(0), Float.floatToRawIntBits((float) nearest) & 0xffffffffL);
                due(b + " by " + a + ": cut", x.cut(0), (long) ((float) nearest * 1000f) + C);
            }
        }
    }

    private static void cuts() {
        // 7/9 is 0.777..; a float times 1000 is 777.7778: cut, not rounded.
        LiftedSystems x = Tables.of(new int[][] {{9, 7}});
        due("7/9: cut(0)", x.cut(0), C + 777);
        x.side(0, -7);
        due("-7/9, towards 0: cut(0)", x.cut(0), C - 777);
        // The greatest solutions are far from the ends of the ints, but beyond the floats' whole thousandths.
        LiftedSystems big = Tables.of(Tables.row(9, 8, 99), Tables.row(8, 7, -99));
        due("1485: solution(0, 0)", big.solution(0, 0), LiftedSystems.PLUS - 1485);
        due("1485: cut(0)", big.cut(0), C - 1485000);
        due("1683: cut(1)", big.cut(1), C + 1683000);
    }

    private static void noneAndMany() {
        LiftedSystems x = Tables.of(Tables.row(2, 4, 3), Tables.row(0, 0, 0));
        due("many: near(0)", x.near(0), 0x3ff8000000000000L);
        due("many: near(1)", x.near(1), 0);
        due("many: shortly(0)", x.shortly(0), 0x3fc00000L);
        due("many: cut(0)", x.cut(0), C + 1500);
        due("many: cut(1)", x.cut(1), C);
        x.side(1, 1);
        due("none: near(0)", x.near(0), NONE);
        due("none: shortly(0)", x.shortly(0), NONE);
        due("none: cut(1)", x.cut(1), NONE);
        due("none: near(2)", x.near(2), UNKNOWN);
        due("none: shortly(2)", x.shortly(2), UNKNOWN);
        due("none: cut(2)", x.cut(2), UNKNOWN);
    }

    private static void refusals() {
        LiftedSystems x = new LiftedSystems();
        int[] wrong = {-1, 2, Integer.MIN_VALUE, Integer.MAX_VALUE};
        for (int j : wrong) {
            due("near(" + j + ")", x.near(j), UNKNOWN);
            due("shortly(" + j + ")", x.shortly(j), UNKNOWN);
            due("cut(" + j + ")", x.cut(j), UNKNOWN);
        }
    }
}
