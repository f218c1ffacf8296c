import java.math.BigInteger;

/** For the tests' own reckoning, which shares nothing with the program. */
final class Fraction {
    static final Fraction ZERO = of(0, 1);
    static final Fraction ONE = of(1, 1);

    final BigInteger above;
    final BigInteger below;

    Fraction(BigInteger above, BigInteger below) {
        BigInteger common = above.gcd(below);
        if (below.signum() < 0) {
            common = common.negate();
        }
        this.above = above.divide(common);
        this.below = below.divide(common);
    }

    static Fraction of(long above, long below) {
        return new Fraction(BigInteger.valueOf(above), BigInteger.valueOf(below));
    }

    static Fraction of(long whole) {
        return of(whole, 1);
    }

    Fraction plus(Fraction other) {
        return new Fraction(above.multiply(other.below).add(other.above.multiply(below)), below.multiply(other.below));
    }

    Fraction times(Fraction other) {
        return new Fraction(above.multiply(other.above), below.multiply(other.below));
    }

    Fraction by(Fraction other) {
        return new Fraction(above.multiply(other.below), below.multiply(other.above));
    }

    Fraction minus() {
        return new Fraction(above.negate(), below);
    }

    boolean isWhole() {
        return below.equals(BigInteger.ONE);
    }

    boolean isZero() {
        return above.signum() == 0;
    }

    boolean is(Fraction other) {
        return above.equals(other.above) && below.equals(other.below);
    }

    boolean is(long a, long b) {
        return is(of(a, b));
    }

    @Override
    public String toString() {
        return above + "/" + below;
    }
}
