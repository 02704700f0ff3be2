import java.math.BigInteger;

/** A fraction without a common divisor, its lower number above 0. */
final class Fraction {
    static final Fraction ZERO = of(0);
    static final Fraction ONE = of(1);

    final BigInteger above;
    final BigInteger below;

    private Fraction(BigInteger above, BigInteger below) {
        BigInteger divisor = above.gcd(below).multiply(BigInteger.valueOf(below.signum()));
        this.above = above.divide(divisor);
        this.below = below.divide(divisor);
    }

    static Fraction of(long number) {
        return of(number, 1);
    }

    static Fraction of(long above, long below) {
        return new Fraction(BigInteger.valueOf(above), BigInteger.valueOf(below));
    }

    Fraction plus(Fraction other) {
        return new Fraction(above.multiply(other.below).add(other.above.multiply(below)), below.multiply(other.below));
    }

    Fraction minus(Fraction other) {
        return plus(other.times(of(-1)));
    }

    Fraction times(Fraction other) {
        return new Fraction(above.multiply(other.above), below.multiply(other.below));
    }

    Fraction by(Fraction other) {
        return new Fraction(above.multiply(other.below), below.multiply(other.above));
    }

    int sign() {
        return above.signum();
    }

    boolean isZero() {
        return sign() == 0;
    }
}
