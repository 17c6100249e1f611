import java.math.BigInteger;

/** An exact fraction in lowest terms. */
final class Ratio implements Comparable<Ratio> {
    static final Ratio ZERO = of(0, 1);
    static final Ratio ONE = of(1, 1);

    final BigInteger upper;
    final BigInteger lower;

    private Ratio(BigInteger u, BigInteger l) {
        BigInteger g = u.gcd(l);
        if (l.signum() < 0) {
            g = g.negate();
        }
        upper = u.divide(g);
        lower = l.divide(g);
    }

    static Ratio of(long u, long l) {
        return new Ratio(BigInteger.valueOf(u), BigInteger.valueOf(l));
    }

    Ratio plus(Ratio o) {
        return new Ratio(upper.multiply(o.lower).add(o.upper.multiply(lower)), lower.multiply(o.lower));
    }

    Ratio minus(Ratio o) {
        return new Ratio(upper.multiply(o.lower).subtract(o.upper.multiply(lower)), lower.multiply(o.lower));
    }

    Ratio times(Ratio o) {
        return new Ratio(upper.multiply(o.upper), lower.multiply(o.lower));
    }

    Ratio by(Ratio o) {
        return new Ratio(upper.multiply(o.lower), lower.multiply(o.upper));
    }

    boolean isZero() {
        return upper.signum() == 0;
    }

    boolean same(Ratio o) {
        return compareTo(o) == 0;
    }

    @Override
    public int compareTo(Ratio o) {
        return upper.multiply(o.lower).compareTo(o.upper.multiply(lower));
    }
}
