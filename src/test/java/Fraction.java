import java.math.BigInteger;

/** A fraction without bounds, for the model. */
record Fraction(BigInteger above, BigInteger below) {
    static final Fraction ZERO = of(0);

    Fraction {
        BigInteger shared = above.gcd(below);
        if (below.signum() < 0) {
            shared = shared.negate();
        }
        above = above.divide(shared);
        below = below.divide(shared);
    }

    static Fraction of(long v) {
        return new Fraction(BigInteger.valueOf(v), BigInteger.ONE);
    }

    boolean isZero() {
        return above.signum() == 0;
    }

    Fraction plus(Fraction o) {
        return new Fraction(above.multiply(o.below).add(o.above.multiply(below)), below.multiply(o.below));
    }

    Fraction minus(Fraction o) {
        return plus(o.times(of(-1)));
    }

    Fraction times(Fraction o) {
        return new Fraction(above.multiply(o.above), below.multiply(o.below));
    }

    Fraction over(Fraction o) {
        return new Fraction(above.multiply(o.below), below.multiply(o.above));
    }
}
