/** Newton (Hensel) lifting of the inverse of an odd long modulo a power of two. */
public final class MontInverse {
    private static final int SEED_BITS = 3;
    private static final int ALL_BITS = 64;
    private static final int REFUSED = -1;

    private long n;
    private long x;
    private int count;

    public MontInverse() {
        startFrom(1L);
    }

    public int seed(long v) {
        startFrom(v | 1L);
        return count;
    }

    public int lift() {
        if (count == ALL_BITS) {
            return REFUSED;
        }
        x = x * (2L - n * x);
        count = doubledCount();
        return count;
    }

    public long check() {
        return n * x;
    }

    public long inverse() {
        // A shift by 64 is a shift by 0 in Java, so the mask below would be empty.
        if (count == ALL_BITS) {
            return x;
        }
        return x & ((1L << count) - 1L);
    }

    // The square of an odd number is 1 modulo 8, so an odd number is its own
    // inverse to three bits.
    private void startFrom(long odd) {
        n = odd;
        x = odd;
        count = SEED_BITS;
    }

    private int doubledCount() {
        int doubled = 2 * count;
        return doubled > ALL_BITS ? ALL_BITS : doubled;
    }
}
