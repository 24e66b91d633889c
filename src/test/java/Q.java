import java.math.BigInteger;

/** An exact fraction without bounds, for the model alone. */
final class Q implements Comparable<Q> {
    static final Q ZERO = of(0);
    final BigInteger above;
    final BigInteger below;

    private Q(BigInteger a, BigInteger b) {
        BigInteger g = a.gcd(b);
        if (b.signum() < 0) {
            g = g.negate();
        }
        above = a.divide(g);
        below = b.divide(g);
    }

    static Q of(long n) {
        return new Q(BigInteger.valueOf(n), BigInteger.ONE);
    }

    static Q of(long a, long b) {
        return new Q(BigInteger.valueOf(a), BigInteger.valueOf(b));
    }

    Q plus(Q o) {
        return new Q(above.multiply(o.below).add(o.above.multiply(below)), below.multiply(o.below));
    }

    Q minus(Q o) {
        return plus(o.times(-1));
    }

    Q times(Q o) {
        return new Q(above.multiply(o.above), below.multiply(o.below));
    }

    Q times(long n) {
        return times(of(n));
    }

    Q by(Q o) {
        return new Q(above.multiply(o.below), below.multiply(o.above));
    }

    int sign() {
        return above.signum();
    }

    BigInteger cut() {
        return above.divide(below);
    }

    long part(int p) {
        return (p == 0 ? above : below).longValueExact();
    }

    @Override
    public int compareTo(Q o) {
        return above.multiply(o.below).compareTo(o.above.multiply(below));
    }

    @Override
    public boolean equals(Object o) {
        return o instanceof Q q && above.equals(q.above) && below.equals(q.below);
    }

    @Override
    public int hashCode() {
        return above.hashCode() * 31 + below.hashCode();
    }

    @Override
    public String toString() {
        return above + "/" + below;
    }
}
