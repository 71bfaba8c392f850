import java.lang.reflect.Constructor;
import java.lang.reflect.Field;
import java.lang.reflect.Method;
import java.lang.reflect.Modifier;
import java.math.BigInteger;
import java.util.Arrays;
import java.util.TreeSet;

/** Tests of promises 1 to 5, each against values written out or worked out with BigInteger. */
public final class MontInverseTest {
    private static final int[] COUNTS = {3, 6, 12, 24, 48, 64};
    private static final BigInteger TWO_64 = BigInteger.ONE.shiftLeft(64);
    private static final long[] VALUES = {
        0L, 1L, -1L, 2L, -2L, 3L, -3L, 4L, 5L, 6L, 7L, 8L, 9L, 15L, 16L, 63L, 64L, 255L, 256L,
        2147483647L, 2147483648L, -2147483648L, -2147483649L, 4294967295L, 4294967296L,
        4294967297L, -4294967295L, 25769803781L, 281474976710655L, 281474976710657L,
        6148914691236517205L, -6148914691236517206L, 4611686018427387904L,
        Long.MIN_VALUE, Long.MIN_VALUE + 1L, Long.MAX_VALUE, Long.MAX_VALUE - 1L
    };

    private static int wrong = 0;

    public static void main(String[] args) {
        publicFace();
        freshObject();
        seedEdges();
        seedForgetsEarlierState();
        liftCounts();
        liftRefusesAt64();
        liftKeepsAllBits();
        checkExamples();
        inverseExamples();
        readingChangesNothing();
        objectsAreApart();
        againstModel();
        againstModelOnManyValues();
        System.out.println(wrong == 0 ? "all answers are as due" : wrong + " answers are not as due");
        if (wrong != 0) {
            System.exit(1);
        }
    }

    private static void due(String what, long got, long want) {
        if (got != want) {
            wrong++;
            System.out.println(what + " answered " + got + ", due is " + want);
        }
    }

    private static void dueText(String what, String got, String want) {
        if (!got.equals(want)) {
            wrong++;
            System.out.println(what + " is " + got + ", due is " + want);
        }
    }

    // The face: nothing visible beside what the document lists.
    private static void publicFace() {
        TreeSet<String> seen = new TreeSet<>();
        for (Method m : MontInverse.class.getDeclaredMethods()) {
            if (!Modifier.isPrivate(m.getModifiers())) {
                seen.add(m.toString());
            }
        }
        for (Constructor<?> c : MontInverse.class.getDeclaredConstructors()) {
            seen.add(c.toString());
        }
        for (Field f : MontInverse.class.getDeclaredFields()) {
            if (!Modifier.isPrivate(f.getModifiers())) {
                seen.add(f.toString());
            }
        }
        TreeSet<String> listed = new TreeSet<>(Arrays.asList(
            "public MontInverse()",
            "public int MontInverse.seed(long)",
            "public int MontInverse.lift()",
            "public long MontInverse.check()",
            "public long MontInverse.inverse()"));
        dueText("the public face", seen.toString(), listed.toString());
        dueText("the class's modifiers", Modifier.toString(MontInverse.class.getModifiers()), "public final");
    }

    // Promise 1
    private static void freshObject() {
        due("fresh check()", new MontInverse().check(), 1L);
        due("fresh inverse()", new MontInverse().inverse(), 1L);
        due("fresh lift()", new MontInverse().lift(), 6L);
        MontInverse fresh = new MontInverse();
        MontInverse seeded = new MontInverse();
        seeded.seed(1L);
        for (int step = 0; step < 8; step++) {
            due("fresh check() at step " + step, fresh.check(), 1L);
            due("fresh inverse() at step " + step, fresh.inverse(), 1L);
            due("fresh lift() at step " + step, fresh.lift(), seeded.lift());
            due("seed(1) check() at step " + step, seeded.check(), fresh.check());
            due("seed(1) inverse() at step " + step, seeded.inverse(), fresh.inverse());
        }
    }

    // Promise 2
    private static void seedEdges() {
        seedGives(0L, 1L);
        seedGives(1L, 1L);
        seedGives(-1L, -1L);
        seedGives(-2L, -1L);
        seedGives(2L, 3L);
        seedGives(3L, 3L);
        seedGives(4L, 5L);
        seedGives(-9223372036854775808L, -9223372036854775807L);
        seedGives(9223372036854775807L, 9223372036854775807L);
        seedGives(9223372036854775806L, 9223372036854775807L);
        seedGives(4294967296L, 4294967297L);
    }

    private static void seedGives(long v, long n) {
        MontInverse m = new MontInverse();
        due("seed(" + v + ")", m.seed(v), 3L);
        due("check() after seed(" + v + ")", m.check(), n * n);
        due("inverse() after seed(" + v + ")", m.inverse(), n & 7L);
        for (int i = 1; i < COUNTS.length; i++) {
            m.lift();
            due("lowest three bits after seed(" + v + ")", m.inverse() & 7L, n & 7L);
        }
        due("full inverse after seed(" + v + ")", m.inverse(), trueInverse(n));
        due("full check after seed(" + v + ")", m.check(), 1L);
    }

    private static void seedForgetsEarlierState() {
        for (int lifts = 0; lifts <= 7; lifts++) {
            for (long before : VALUES) {
                MontInverse used = new MontInverse();
                used.seed(before);
                for (int i = 0; i < lifts; i++) {
                    used.lift();
                }
                MontInverse clean = new MontInverse();
                String what = "seed(10) after seed(" + before + ") and " + lifts + " lifts: ";
                due(what + "seed", used.seed(10L), 3L);
                clean.seed(10L);
                for (int step = 0; step < 7; step++) {
                    due(what + "check()", used.check(), clean.check());
                    due(what + "inverse()", used.inverse(), clean.inverse());
                    due(what + "lift()", used.lift(), clean.lift());
                }
            }
        }
    }

    // Promise 3
    private static void liftCounts() {
        for (long v : VALUES) {
            MontInverse m = new MontInverse();
            m.seed(v);
            for (int i = 1; i < COUNTS.length; i++) {
                due("lift " + i + " after seed(" + v + ")", m.lift(), COUNTS[i]);
            }
            due("lift 6 after seed(" + v + ")", m.lift(), -1L);
            due("lift 7 after seed(" + v + ")", m.lift(), -1L);
        }
    }

    private static void liftRefusesAt64() {
        MontInverse m = new MontInverse();
        m.seed(3L);
        for (int i = 0; i < 5; i++) {
            m.lift();
        }
        for (int i = 0; i < 1000; i++) {
            due("lift() at 64", m.lift(), -1L);
            due("inverse() at 64", m.inverse(), -6148914691236517205L);
            due("check() at 64", m.check(), 1L);
        }
        due("seed(5) at 64", m.seed(5L), 3L);
        due("lift() after that seed", m.lift(), 6L);
        due("inverse() after that lift", m.inverse(), 13L);
    }

    // 3 * (2 - 9) = -21, and -21 * (2 + 63) = -1365: cut to valid bits, both would be positive.
    private static void liftKeepsAllBits() {
        MontInverse m = new MontInverse();
        m.seed(3L);
        m.lift();
        due("check() after one lift of 3", m.check(), -63L);
        due("inverse() after one lift of 3", m.inverse(), 43L);
        m.lift();
        due("check() after two lifts of 3", m.check(), -4095L);
        due("inverse() after two lifts of 3", m.inverse(), 2731L);
        m.seed(25769803781L);
        m.lift();
        due("check() after one lift of 25769803781", m.check(), -12369505813055L);
    }

    // Promise 4
    private static void checkExamples() {
        MontInverse m = new MontInverse();
        m.seed(3L);
        due("check() after seed(3)", m.check(), 9L);
        m.seed(-1L);
        due("check() after seed(-1)", m.check(), 1L);
        m.seed(30064771071L);
        due("check() after seed(30064771071)", m.check(), -60129542143L);
        for (long v : VALUES) {
            m.seed(v);
            for (int count : COUNTS) {
                long low = count == 64 ? m.check() : m.check() & ((1L << count) - 1L);
                due("low " + count + " bits of check() for " + v, low, 1L);
                m.lift();
            }
        }
    }

    // Promise 5
    private static void inverseExamples() {
        MontInverse m = new MontInverse();
        m.seed(-1L);
        long[] ones = {7L, 63L, 4095L, 16777215L, 281474976710655L, -1L};
        for (int i = 0; i < ones.length; i++) {
            due("inverse() of -1 at count " + COUNTS[i], m.inverse(), ones[i]);
            m.lift();
        }
        due("inverse() of -1 after a refused lift", m.inverse(), -1L);
        long[] thirds = {3L, 43L, 2731L, 11184811L, 187649984473771L, -6148914691236517205L};
        m.seed(3L);
        for (int i = 0; i < thirds.length; i++) {
            due("inverse() of 3 at count " + COUNTS[i], m.inverse(), thirds[i]);
            m.lift();
        }
    }

    private static void readingChangesNothing() {
        for (long v : VALUES) {
            MontInverse read = new MontInverse();
            MontInverse unread = new MontInverse();
            read.seed(v);
            unread.seed(v);
            for (int lifts = 0; lifts <= 6; lifts++) {
                long check = read.check();
                long inverse = read.inverse();
                due("check() again for " + v, read.check(), check);
                due("inverse() again for " + v, read.inverse(), inverse);
                due("check() after inverse() for " + v, read.check(), check);
                due("lift() after reads for " + v, read.lift(), unread.lift());
            }
            due("check() at the end for " + v, read.check(), unread.check());
            due("inverse() at the end for " + v, read.inverse(), unread.inverse());
        }
    }

    private static void objectsAreApart() {
        MontInverse a = new MontInverse();
        MontInverse b = new MontInverse();
        a.seed(3L);
        b.seed(5L);
        a.lift();
        due("check() of the other object", b.check(), 25L);
        due("inverse() of the other object", b.inverse(), 5L);
        due("lift() of the other object", b.lift(), 6L);
        due("lift() of the first object", a.lift(), 12L);
        due("check() of a third object", new MontInverse().check(), 1L);
    }

    private static void againstModel() {
        for (long v : VALUES) {
            sameAsModel(v);
        }
    }

    // A fixed multiplier instead of a random source: the same values on every run.
    private static void againstModelOnManyValues() {
        long v = 1L;
        for (int i = 0; i < 20000; i++) {
            v = v * 6364136223846793005L + 1442695040888963407L;
            sameAsModel(v >> (i % 64));
        }
    }

    private static void sameAsModel(long v) {
        MontInverse m = new MontInverse();
        due("seed(" + v + ")", m.seed(v), 3L);
        BigInteger n = BigInteger.valueOf(v).setBit(0);
        BigInteger x = n;
        for (int i = 0; i < COUNTS.length; i++) {
            String where = " of " + v + " at count " + COUNTS[i];
            BigInteger valid = x.mod(BigInteger.ONE.shiftLeft(COUNTS[i]));
            due("check()" + where, m.check(), n.multiply(x).longValue());
            due("inverse()" + where, m.inverse(), valid.longValue());
            due("lift()" + where, m.lift(), i + 1 < COUNTS.length ? COUNTS[i + 1] : -1L);
            x = x.multiply(BigInteger.TWO.subtract(n.multiply(x))).mod(TWO_64);
        }
        due("inverse() at the end of " + v, m.inverse(), trueInverse(v | 1L));
        due("check() at the end of " + v, m.check(), 1L);
    }

    private static long trueInverse(long odd) {
        return BigInteger.valueOf(odd).modInverse(TWO_64).longValue();
    }
}
