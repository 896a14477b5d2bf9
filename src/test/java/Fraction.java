import java.math.BigInteger;

/** A fraction in lowest terms, for the model alone. */
final class Fraction implements Comparable<Fraction> {
    static final Fraction ZERO = of(0, 1), ONE = of(1, 1);
    final BigInteger above, below;

    private Fraction(BigInteger a, BigInteger b) {
        BigInteger g = a.gcd(b);
        if (b.signum() < 0) g = g.negate();
        above = a.divide(g);
        below = b.divide(g);
    }

    static Fraction of(long a, long b) {
        return new Fraction(BigInteger.valueOf(a), BigInteger.valueOf(b));
    }

    Fraction plus(Fraction o) {
        return new Fraction(above.multiply(o.below).add(o.above.multiply(below)), below.multiply(o.below));
    }

    Fraction minus(Fraction o) {
        return plus(new Fraction(o.above.negate(), o.below));
    }

    Fraction times(Fraction o) {
        return new Fraction(above.multiply(o.above), below.multiply(o.below));
    }

    Fraction by(Fraction o) {
        return new Fraction(above.multiply(o.below), below.multiply(o.above));
    }

    boolean isZero() {
        return above.signum() == 0;
    }

    long part(int part) {
        return (part == 0 ? above : below).longValueExact();
    }

    @Override public int compareTo(Fraction o) {
        return above.multiply(o.below).compareTo(o.above.multiply(below));
    }
}
