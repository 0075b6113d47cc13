import java.math.BigInteger;

/** A fraction in lowest terms, of any size. */
final class Ratio implements Comparable<Ratio> {
    static final Ratio ZERO = of(0, 1), ONE = of(1, 1);
    final BigInteger above, below;

    private Ratio(BigInteger above, BigInteger below) {
        BigInteger g = above.gcd(below);
        if (below.signum() < 0) g = g.negate();
        this.above = above.divide(g);
        this.below = below.divide(g);
    }

    static Ratio of(long above, long below) {
        return new Ratio(BigInteger.valueOf(above), BigInteger.valueOf(below));
    }

    Ratio plus(Ratio o) {
        return new Ratio(above.multiply(o.below).add(o.above.multiply(below)), below.multiply(o.below));
    }

    Ratio minus(Ratio o) {
        return new Ratio(above.multiply(o.below).subtract(o.above.multiply(below)), below.multiply(o.below));
    }

    Ratio times(Ratio o) {
        return new Ratio(above.multiply(o.above), below.multiply(o.below));
    }

    Ratio by(Ratio o) {
        return new Ratio(above.multiply(o.below), below.multiply(o.above));
    }

    boolean isZero() {
        return above.signum() == 0;
    }

    long part(int part) {
        return (part == 0 ? above : below).longValueExact();
    }

    @Override
    public int compareTo(Ratio o) {
        return above.multiply(o.below).compareTo(o.above.multiply(below));
    }
}
