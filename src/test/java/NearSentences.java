import java.math.BigDecimal;
import java.math.MathContext;

/** The terms NEAR, SHORT and CUT, and promises 11 to 13: near, shortly, cut. */
final class NearSentences extends Sentences {
    private static final long C = 3000000000L;

    private NearSentences() {
    }

    static void test() {
        nearest();
        shortOnes();
        cuts();
        nearCall();
        shortlyCall();
        cutCall();
    }

    /** X 0 is the farthest from 0 that was found; its sign is that of 'sign'. */
    private static LiftedSystems far(int sign) {
        int b = 99 * sign;
        return of(row(-3, -8, -9, 9, b), row(-5, 9, 9, 9, b), row(-5, -9, 8, 9, -b), row(-2, 9, -9, 7, -b));
    }

    /** X 0 is 7 by 10, or -7 by 10. */
    private static LiftedSystems sevenTenths(int sign) {
        return of(row(2, 1, 2 * sign), row(0, 5, 3 * sign));
    }

    /** X 0 is a whole number by 8: the cofactors of column 0 are -2763, 2610, 2772, 2311, the determinant is 8. */
    private static LiftedSystems eighths(int a, int b, int c, int d) {
        return of(row(-4, -7, 9, -9, a), row(-6, -9, -8, -9, b), row(5, 9, 9, -8, c), row(-4, -9, 9, 9, d));
    }

    private static LiftedSystems[] samples() {
        LiftedSystems[] all = new LiftedSystems[200];
        for (int k = 0; k < all.length; k++) {
            all[k] = drawn(1 + k % 4, 3000 + k);
        }
        return all;
    }

    private static double nearestOf(LiftedSystems x, int j) {
        BigDecimal above = new BigDecimal(x.solution(j, 0) - P);
        return above.divide(new BigDecimal(x.solution(j, 1)), new MathContext(100)).doubleValue();
    }

    private static void nearest() {
        says(TERMS, "NEAR an X (there is a SOLUTION): the double that is nearest to its ABOVE by BELOW (of two the even one).");
        due("1 by 3 is cut", one(3, 1).near(0), 0x3fd5555555555555L);
        due("1 by 5 is raised", one(5, 1).near(0), 0x3fc999999999999aL);
        due("-1 by 5", one(5, -1).near(0), 0xbfc999999999999aL);
        due("1 by 9", one(9, 1).near(0), 0x3fbc71c71c71c71cL);
        due("0", one(-9, 0).near(0), 0);
        due("a power of 2", one(8, 1).near(0), 0x3fc0000000000000L);
        due("11 and an eighth", of(row(9, 1, 99), row(1, 9, 1)).near(0), Double.doubleToRawLongBits(11.125));
        due("the farthest", far(1).near(0), Double.doubleToRawLongBits(1035144.0));
        due("the farthest below 0", far(-1).near(0), Double.doubleToRawLongBits(-1035144.0));
        for (LiftedSystems x : samples()) {
            for (int j = 0; j < x.told(0) && x.told(5) != 0; j++) {
                due("near(" + j + ")", x.near(j), Double.doubleToRawLongBits(nearestOf(x, j)));
            }
        }
        due("there is no SOLUTION", one(0, 1).near(0), NONE);
        due("there are many", one(0, 0).near(0), 0);
    }

    private static void shortOnes() {
        says(TERMS, "SHORT: the float nearest to that double (of two the even one).");
        due("1 by 3 is raised", one(3, 1).shortly(0), 0x3eaaaaabL);
        due("1 by 9 is raised", one(9, 1).shortly(0), 0x3de38e39L);
        due("7 by 10 is cut", sevenTenths(1).shortly(0), 0x3f333333L);
        due("-7 by 10 is cut", sevenTenths(-1).shortly(0), 0xbf333333L);
        due("0", one(9, 0).shortly(0), 0);
        due("the farthest", far(1).shortly(0), Float.floatToRawIntBits(1035144.0f));
        for (LiftedSystems x : samples()) {
            for (int j = 0; j < x.told(0) && x.told(5) != 0; j++) {
                float nearest = new BigDecimal(nearestOf(x, j)).floatValue();
                due("shortly(" + j + ")", x.shortly(j), Float.floatToRawIntBits(nearest) & 0xffffffffL);
            }
        }
    }

    private static void cuts() {
        says(TERMS, "CUT: that float times 1000, as floats are multiplied, cut to a whole number towards 0; what would be beyond the ints "
            + "is the greatest or the least of these.");
        due("7 by 9 is 777.7: cut", one(9, 7).cut(0), C + 777);
        due("-7 by 9: towards 0", one(9, -7).cut(0), C - 777);
        // The float of 7 by 10 is less than it; times 1000, as floats are multiplied, it is 700 all the same.
        due("7 by 10", sevenTenths(1).cut(0), C + 700);
        due("-7 by 10", sevenTenths(-1).cut(0), C - 700);
        // Halves between two floats: the even one, below and above, from either side of 0.
        due("239309 by 8", eighths(42, 34, 62, 41).cut(0), C + 29913624);
        due("-239309 by 8", eighths(-42, -34, -62, -41).cut(0), C - 29913624);
        due("233651 by 8", eighths(46, 52, 52, 35).cut(0), C + 29206376);
        due("-233651 by 8", eighths(-46, -52, -52, -35).cut(0), C - 29206376);
        due("the farthest", far(1).cut(0), C + 1035144000);
        due("the farthest below 0", far(-1).cut(0), C - 1035144000);
        for (LiftedSystems x : samples()) {
            for (int j = 0; j < x.told(0) && x.told(5) != 0; j++) {
                BigDecimal exact = new BigDecimal((float) nearestOf(x, j)).multiply(new BigDecimal(1000));
                due("cut(" + j + ")", x.cut(j), C + new BigDecimal(exact.floatValue()).toBigInteger().longValueExact());
            }
        }
    }

    private static void nearCall() {
        says(11, "NEAR X j, the 64 bits by which that double is kept; NONE: there is no SOLUTION.");
        LiftedSystems x = of(row(1, 0, 1), row(0, 1, -2));
        due("1", x.near(0), 0x3ff0000000000000L);
        due("-2", x.near(1), 0xc000000000000000L);
        x.put(1, 1, 0);
        due("none", x.near(0), NONE);
        due("none", x.near(1), NONE);
        x.side(1, 0);
        due("many", x.near(0), 0x3ff0000000000000L);
        due("many", x.near(1), 0);
        says(11, "UNKNOWN.");
        for (int n = 1; n <= 4; n++) {
            LiftedSystems y = new LiftedSystems();
            y.size(n);
            due("the last", y.near(n - 1), 0);
            due("one more", y.near(n), UNKNOWN);
            due("one before", y.near(-1), UNKNOWN);
            y.put(0, 0, 0);
            y.side(0, 1);
            due("there is no SOLUTION", y.near(n - 1), NONE);
            due("there is no SOLUTION, one more", y.near(n), UNKNOWN);
        }
    }

    private static void shortlyCall() {
        says(12, "SHORT of X j, the 32 bits by which that float is kept, as a number from 0 on; NONE: there is no SOLUTION.");
        LiftedSystems x = of(row(1, 0, 1), row(0, 1, -2));
        due("1", x.shortly(0), 0x3f800000L);
        due("-2, from 0 on", x.shortly(1), 0xc0000000L);
        x.put(1, 1, 0);
        due("none", x.shortly(0), NONE);
        x.side(1, 0);
        due("many", x.shortly(1), 0);
        says(12, "UNKNOWN.");
        for (int n = 1; n <= 4; n++) {
            LiftedSystems y = new LiftedSystems();
            y.size(n);
            due("the last", y.shortly(n - 1), 0);
            due("one more", y.shortly(n), UNKNOWN);
            due("one before", y.shortly(-1), UNKNOWN);
            y.put(0, 0, 0);
            y.side(0, 1);
            due("there is no SOLUTION, one more", y.shortly(n), UNKNOWN);
        }
    }

    private static void cutCall() {
        says(13, "CUT of X j, and 3000000000; NONE: there is no SOLUTION.");
        LiftedSystems x = of(row(1, 0, 99), row(0, 1, -99));
        due("99", x.cut(0), 3000099000L);
        due("-99", x.cut(1), 2999901000L);
        x.put(1, 1, 0);
        due("none", x.cut(0), NONE);
        x.side(1, 0);
        due("many", x.cut(1), 3000000000L);
        says(13, "UNKNOWN.");
        for (int n = 1; n <= 4; n++) {
            LiftedSystems y = new LiftedSystems();
            y.size(n);
            due("the last", y.cut(n - 1), C);
            due("one more", y.cut(n), UNKNOWN);
            due("one before", y.cut(-1), UNKNOWN);
            y.put(0, 0, 0);
            y.side(0, 1);
            due("there is no SOLUTION, one more", y.cut(n), UNKNOWN);
        }
    }
}
