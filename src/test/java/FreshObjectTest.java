/** Promise 1: the fresh object. */
public final class FreshObjectTest {
    public static void main(String[] args) {
        Due.test("the constructor takes no arguments and never throws", FreshObjectTest::constructorNeverThrows);
        Due.test("a fresh object is in exactly the state left by seed(1)", FreshObjectTest::asAfterSeedOne);
        Due.test("fresh: n = 1 and x = 1", FreshObjectTest::nAndXAreOne);
        Due.test("fresh: count = 3", FreshObjectTest::countIsThree);
        Due.test("on a fresh object check() answers 1", FreshObjectTest::checkAtOnce);
        Due.test("on a fresh object inverse() answers 1", FreshObjectTest::inverseAtOnce);
        Due.test("on a fresh object the first lift() answers 6", FreshObjectTest::liftAtOnce);
        Due.test("a fresh object takes a seed at once", FreshObjectTest::seedAtOnce);
        Due.end();
    }

    private static void constructorNeverThrows() {
        for (int i = 0; i < 1000; i++) {
            Due.answer("check() of new object " + i, new MontInverse().check(), 1L);
        }
    }

    private static void asAfterSeedOne() {
        Due.sameFromHere("fresh against seed(1)", new MontInverse(), Due.seeded(1L));
        Due.sameFromHere("fresh against seed(1) at count 64", new MontInverse(), seededOneAt64());
    }

    private static MontInverse seededOneAt64() {
        MontInverse m = Due.lifted(11L, Due.LIFTS_TO_64);
        m.seed(1L);
        return m;
    }

    // Once all bits are valid, inverse() shows the whole of x, and check() shows n through it.
    private static void nAndXAreOne() {
        MontInverse m = new MontInverse();
        for (int count : Due.COUNTS) {
            Due.answer("check() at count " + count, m.check(), 1L);
            Due.answer("inverse() at count " + count, m.inverse(), 1L);
            m.lift();
        }
    }

    private static void countIsThree() {
        MontInverse m = new MontInverse();
        for (int i = 1; i < Due.COUNTS.length; i++) {
            Due.answer("lift() number " + i, m.lift(), Due.COUNTS[i]);
        }
        Due.answer("lift() after the last", m.lift(), -1L);
    }

    private static void checkAtOnce() {
        Due.answer("check()", new MontInverse().check(), 1L);
    }

    private static void inverseAtOnce() {
        Due.answer("inverse()", new MontInverse().inverse(), 1L);
    }

    private static void liftAtOnce() {
        Due.answer("lift()", new MontInverse().lift(), 6L);
    }

    private static void seedAtOnce() {
        MontInverse m = new MontInverse();
        Due.answer("seed(3)", m.seed(3L), 3L);
        Due.answer("check()", m.check(), 9L);
    }
}
