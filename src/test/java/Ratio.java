import java.math.BigInteger;

/** A fraction in lowest terms, reckoned by the Java library. */
final class Ratio implements Comparable<Ratio> {
    static final Ratio ZERO = of(0, 1);
    static final Ratio ONE = of(1, 1);

    final BigInteger top;
    final BigInteger bottom;

    Ratio(BigInteger top, BigInteger bottom) {
        BigInteger shared = top.gcd(bottom);
        BigInteger by = bottom.signum() < 0 ? shared.negate() : shared;
        this.top = top.divide(by);
        this.bottom = bottom.divide(by);
    }

    static Ratio of(long top, long bottom) {
        return new Ratio(BigInteger.valueOf(top), BigInteger.valueOf(bottom));
    }

    Ratio plus(Ratio o) {
        return new Ratio(top.multiply(o.bottom).add(o.top.multiply(bottom)), bottom.multiply(o.bottom));
    }

    Ratio minus(Ratio o) {
        return plus(o.by(-1));
    }

    Ratio by(Ratio o) {
        return new Ratio(top.multiply(o.top), bottom.multiply(o.bottom));
    }

    Ratio by(long factor) {
        return by(of(factor, 1));
    }

    Ratio over(Ratio o) {
        return new Ratio(top.multiply(o.bottom), bottom.multiply(o.top));
    }

    Ratio max(Ratio o) {
        return compareTo(o) >= 0 ? this : o;
    }

    int sign() {
        return top.signum();
    }

    int longest() {
        return Math.max(top.abs().bitLength(), bottom.bitLength());
    }

    boolean isGreat() {
        BigInteger limit = BigInteger.ONE.shiftLeft(256);
        return top.abs().compareTo(limit) >= 0 || bottom.compareTo(limit) >= 0;
    }

    @Override
    public int compareTo(Ratio o) {
        return top.multiply(o.bottom).compareTo(o.top.multiply(bottom));
    }
}
