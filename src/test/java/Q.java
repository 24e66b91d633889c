import java.math.BigInteger;

/** An exact fraction without bounds, for the model alone. */
final class Q implements Comparable<Q> {
    static final Q ZERO = of(0);
    final BigInteger above;
    final BigInteger below;

    private Q(BigInteger a, BigInteger b) {
        if (b.equals(BigInteger.ONE)) {
            above = a;
            below = b;
        } else if (a.bitLength() < 63 && b.bitLength() < 63) {
            // Most numbers are small; finding their divisor as longs makes drawn runs far faster.
            long g = divisor(a.longValue(), b.longValue());
            above = BigInteger.valueOf(a.longValue() / g);
            below = BigInteger.valueOf(b.longValue() / g);
        } else {
            BigInteger g = b.signum() < 0 ? a.gcd(b).negate() : a.gcd(b);
            above = a.divide(g);
            below = b.divide(g);
        }
    }

    /** The greatest common divisor, with the sign of b. */
    private static long divisor(long a, long b) {
        long x = Math.abs(a);
        long y = Math.abs(b);
        while (y != 0) {
            long rest = x % y;
            x = y;
            y = rest;
        }
        return b < 0 ? -x : x;
    }

    static Q of(long n) {
        return new Q(BigInteger.valueOf(n), BigInteger.ONE);
    }

    static Q of(long a, long b) {
        return new Q(BigInteger.valueOf(a), BigInteger.valueOf(b));
    }

    Q plus(Q o) {
        return new Q(above.multiply(o.below).add(o.above.multiply(below)), below.multiply(o.below));
    }

    Q minus(Q o) {
        return new Q(above.multiply(o.below).subtract(o.above.multiply(below)), below.multiply(o.below));
    }

    Q times(Q o) {
        return new Q(above.multiply(o.above), below.multiply(o.below));
    }

    Q times(long n) {
        return times(of(n));
    }

    Q by(Q o) {
        return new Q(above.multiply(o.below), below.multiply(o.above));
    }

    int sign() {
        return above.signum();
    }

    BigInteger cut() {
        return above.divide(below);
    }

    long part(int p) {
        return (p == 0 ? above : below).longValueExact();
    }

    @Override
    public int compareTo(Q o) {
        return above.multiply(o.below).compareTo(o.above.multiply(below));
    }

    @Override
    public boolean equals(Object o) {
        return o instanceof Q q && above.equals(q.above) && below.equals(q.below);
    }

    @Override
    public int hashCode() {
        return above.hashCode() * 31 + below.hashCode();
    }

    @Override
    public String toString() {
        return above + "/" + below;
    }
}
