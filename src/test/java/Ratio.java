import java.math.BigInteger;

/** A fraction of any size, for the tests' sums; BELOW may be any number but 0. */
final class Ratio {
    private final BigInteger above;
    private final BigInteger below;

    private Ratio(BigInteger above, BigInteger below) {
        this.above = above;
        this.below = below;
    }

    static Ratio of(long above, long below) {
        return new Ratio(BigInteger.valueOf(above), BigInteger.valueOf(below));
    }

    Ratio plus(Ratio other) {
        return new Ratio(above.multiply(other.below).add(other.above.multiply(below)), below.multiply(other.below));
    }

    Ratio times(long factor) {
        return new Ratio(above.multiply(BigInteger.valueOf(factor)), below);
    }

    boolean isZero() {
        return above.signum() == 0;
    }

    @Override
    public String toString() {
        return above + "/" + below;
    }
}
