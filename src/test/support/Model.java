import java.math.BigInteger;

/** The document's three values and its formulas, over BigInteger and with nothing of the class in it. */
final class Model {
    static final BigInteger TWO_64 = BigInteger.ONE.shiftLeft(64);

    private BigInteger n = BigInteger.ONE;
    private BigInteger x = BigInteger.ONE;
    private int count = 3;

    long seed(long v) {
        n = BigInteger.valueOf(v).setBit(0);
        x = n;
        count = 3;
        return 3L;
    }

    long lift() {
        if (count == 64) {
            return -1L;
        }
        x = x.multiply(BigInteger.TWO.subtract(n.multiply(x))).mod(TWO_64);
        count = Math.min(2 * count, 64);
        return count;
    }

    long check() {
        return n.multiply(x).longValue();
    }

    long inverse() {
        return x.mod(BigInteger.ONE.shiftLeft(count)).longValue();
    }

    /** Not by lifting: what x has to be once all 64 bits are valid. */
    long fullInverse() {
        return n.modInverse(TWO_64).longValue();
    }
}
