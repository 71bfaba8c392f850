import java.math.BigInteger;

/** Promises 2 to 5 together, against the document's formulas worked out with BigInteger. */
public final class ModelTest {
    private static final BigInteger TWO_64 = BigInteger.ONE.shiftLeft(64);

    public static void main(String[] args) {
        Due.test("the same as the model on the edge values", ModelTest::edgeValues);
        Due.test("the same as the model on many values", ModelTest::manyValues);
        Due.end();
    }

    private static void edgeValues() {
        for (long v : Due.VALUES) {
            sameAsModel(v);
        }
    }

    // A fixed multiplier instead of a random source: the same values on every run.
    private static void manyValues() {
        long v = 1L;
        for (int i = 0; i < 20000; i++) {
            v = v * 6364136223846793005L + 1442695040888963407L;
            sameAsModel(v >> (i % 64));
        }
    }

    private static void sameAsModel(long v) {
        MontInverse m = new MontInverse();
        Due.answer("seed(" + v + ")", m.seed(v), 3L);
        BigInteger n = BigInteger.valueOf(v).setBit(0);
        BigInteger x = n;
        for (int i = 0; i < Due.COUNTS.length; i++) {
            String where = " of " + v + " at count " + Due.COUNTS[i];
            BigInteger valid = x.mod(BigInteger.ONE.shiftLeft(Due.COUNTS[i]));
            Due.answer("check()" + where, m.check(), n.multiply(x).longValue());
            Due.answer("inverse()" + where, m.inverse(), valid.longValue());
            Due.answer("lift()" + where, m.lift(), i + 1 < Due.COUNTS.length ? Due.COUNTS[i + 1] : -1L);
            x = x.multiply(BigInteger.TWO.subtract(n.multiply(x))).mod(TWO_64);
        }
        Due.answer("inverse() at the end of " + v, m.inverse(), n.modInverse(TWO_64).longValue());
        Due.answer("check() at the end of " + v, m.check(), 1L);
    }
}
