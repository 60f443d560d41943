import java.math.BigInteger;

/** An exact fraction for the tests, without a common divisor, its bottom above 0. */
final class Fraction implements Comparable<Fraction> {
    static final Fraction ZERO = of(0);
    static final Fraction ONE = of(1);
    final BigInteger top;
    final BigInteger bottom;

    Fraction(BigInteger top, BigInteger bottom) {
        BigInteger common = top.gcd(bottom);
        if (bottom.signum() < 0) {
            common = common.negate();
        }
        this.top = top.divide(common);
        this.bottom = bottom.divide(common);
    }

    static Fraction of(long top) {
        return of(top, 1);
    }

    static Fraction of(long top, long bottom) {
        return new Fraction(BigInteger.valueOf(top), BigInteger.valueOf(bottom));
    }

    Fraction plus(Fraction other) {
        return new Fraction(top.multiply(other.bottom).add(other.top.multiply(bottom)),
            bottom.multiply(other.bottom));
    }

    Fraction minus(Fraction other) {
        return plus(new Fraction(other.top.negate(), other.bottom));
    }

    Fraction times(Fraction other) {
        return new Fraction(top.multiply(other.top), bottom.multiply(other.bottom));
    }

    Fraction by(Fraction other) {
        return new Fraction(top.multiply(other.bottom), bottom.multiply(other.top));
    }

    int sign() {
        return top.signum();
    }

    @Override
    public int compareTo(Fraction other) {
        return minus(other).sign();
    }

    @Override
    public String toString() {
        return top + "/" + bottom;
    }
}
