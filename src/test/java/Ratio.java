/** A fraction in lowest terms; a result that does not fit a long ends the test. */
final class Ratio implements Comparable<Ratio> {
    static final Ratio ZERO = new Ratio(0, 1);

    final long above;
    final long below;

    Ratio(long above, long below) {
        long a = above;
        long b = below;
        while (b != 0) {
            long rest = a % b;
            a = b;
            b = rest;
        }
        long factor = below < 0 ? -Math.abs(a) : Math.abs(a);
        this.above = above / factor;
        this.below = below / factor;
    }

    static Ratio of(long whole) {
        return new Ratio(whole, 1);
    }

    Ratio plus(Ratio o) {
        return new Ratio(Math.addExact(Math.multiplyExact(above, o.below), Math.multiplyExact(o.above, below)),
                Math.multiplyExact(below, o.below));
    }

    Ratio minus(Ratio o) {
        return plus(new Ratio(-o.above, o.below));
    }

    Ratio times(Ratio o) {
        return new Ratio(Math.multiplyExact(above, o.above), Math.multiplyExact(below, o.below));
    }

    Ratio by(Ratio o) {
        return new Ratio(Math.multiplyExact(above, o.below), Math.multiplyExact(below, o.above));
    }

    boolean isZero() {
        return above == 0;
    }

    @Override
    public int compareTo(Ratio o) {
        return Long.compare(Math.multiplyExact(above, o.below), Math.multiplyExact(o.above, below));
    }

    static Ratio min(Ratio a, Ratio b) {
        return a.compareTo(b) <= 0 ? a : b;
    }

    static Ratio max(Ratio a, Ratio b) {
        return a.compareTo(b) >= 0 ? a : b;
    }
}
