import java.math.BigInteger;

/** A fraction of any size, in lowest terms, for the tests' second reckoning. */
final class Q implements Comparable<Q> {
    static final Q ZERO = of(0, 1);
    final BigInteger num;
    final BigInteger den;

    private Q(BigInteger a, BigInteger b) {
        BigInteger g = a.gcd(b);
        BigInteger sign = BigInteger.valueOf(b.signum());
        num = a.divide(g).multiply(sign);
        den = b.divide(g).multiply(sign);
    }

    static Q of(long a, long b) {
        return new Q(BigInteger.valueOf(a), BigInteger.valueOf(b));
    }

    static Q of(long a) {
        return of(a, 1);
    }

    Q plus(Q o) {
        return new Q(num.multiply(o.den).add(o.num.multiply(den)), den.multiply(o.den));
    }

    Q minus(Q o) {
        return new Q(num.multiply(o.den).subtract(o.num.multiply(den)), den.multiply(o.den));
    }

    Q times(Q o) {
        return new Q(num.multiply(o.num), den.multiply(o.den));
    }

    Q times(long a, long b) {
        return times(of(a, b));
    }

    Q by(Q o) {
        return new Q(num.multiply(o.den), den.multiply(o.num));
    }

    Q min(Q o) {
        return compareTo(o) <= 0 ? this : o;
    }

    Q max(Q o) {
        return compareTo(o) >= 0 ? this : o;
    }

    boolean more(Q o) {
        return compareTo(o) > 0;
    }

    @Override
    public int compareTo(Q o) {
        return num.multiply(o.den).compareTo(o.num.multiply(den));
    }

    @Override
    public boolean equals(Object o) {
        return o instanceof Q && compareTo((Q) o) == 0;
    }

    @Override
    public int hashCode() {
        return num.hashCode() * 31 + den.hashCode();
    }

    @Override
    public String toString() {
        return den.equals(BigInteger.ONE) ? num.toString() : num + "/" + den;
    }
}
