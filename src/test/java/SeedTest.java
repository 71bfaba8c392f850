/** Promise 2: seed. */
public final class SeedTest {
    public static void main(String[] args) {
        Due.test("an odd v is taken as it is", SeedTest::oddIsTakenAsItIs);
        Due.test("an even v has its lowest bit set", SeedTest::evenHasLowestBitSet);
        Due.test("x is set to the new n, not to v", SeedTest::xIsNewNotV);
        Due.test("x is set with all 64 bits", SeedTest::xHasAllBits);
        Due.test("n is set with all 64 bits", SeedTest::nHasAllBits);
        Due.test("seed sets count to 3", SeedTest::countIsThree);
        Due.test("seed answers 3, always, and never refuses", SeedTest::answersThree);
        Due.test("nothing of the earlier state survives", SeedTest::nothingSurvives);
        Due.test("seed right after seed: the last one holds", SeedTest::lastSeedHolds);
        Due.test("the same v again starts over", SeedTest::sameValueStartsOver);
        Due.test("once count is 64, seed makes lifting possible again", SeedTest::liftingPossibleAgain);
        Due.test("edge: v = 0 gives 1", SeedTest::zero);
        Due.test("edge: v = -1 gives -1", SeedTest::minusOne);
        Due.test("edge: the smallest long gives -9223372036854775807", SeedTest::smallest);
        Due.test("edge: the largest long gives itself", SeedTest::largest);
        Due.end();
    }

    private static void oddIsTakenAsItIs() {
        Due.answer("check() after seed(3)", Due.seeded(3L).check(), 9L);
        Due.answer("check() after seed(-3)", Due.seeded(-3L).check(), 9L);
        Due.answer("inverse() after seed(-3)", Due.seeded(-3L).inverse(), 5L);
        Due.answer("check() after seed(11)", Due.seeded(11L).check(), 121L);
        Due.answer("full inverse of 11", Due.lifted(11L, Due.LIFTS_TO_64).inverse(), 3353953467947191203L);
    }

    private static void evenHasLowestBitSet() {
        Due.answer("check() after seed(2)", Due.seeded(2L).check(), 9L);
        Due.answer("check() after seed(10)", Due.seeded(10L).check(), 121L);
        Due.answer("inverse() after seed(-4)", Due.seeded(-4L).inverse(), 5L);
        Due.answer("full inverse after seed(-2)", Due.lifted(-2L, Due.LIFTS_TO_64).inverse(), -1L);
        Due.sameFromHere("seed(2^40) against seed(2^40 + 1)", Due.seeded(1099511627776L), Due.seeded(1099511627777L));
    }

    // With x = v, the product would be even and the valid bits too.
    private static void xIsNewNotV() {
        Due.answer("inverse() after seed(4)", Due.seeded(4L).inverse(), 5L);
        Due.answer("check() after seed(4)", Due.seeded(4L).check(), 25L);
        Due.answer("inverse() after seed(6)", Due.seeded(6L).inverse(), 7L);
        Due.answer("check() after seed(6)", Due.seeded(6L).check(), 49L);
    }

    // n = 2^40 + 1: with x cut to its lower bits, n * x would be n itself.
    private static void xHasAllBits() {
        Due.answer("check() after seed(2^40 + 1)", Due.seeded(1099511627777L).check(), 2199023255553L);
        Due.answer("check() after seed(1 - 2^40)", Due.seeded(-1099511627775L).check(), -2199023255551L);
        Due.answer("check() after seed(11)", Due.seeded(11L).check(), 121L);
    }

    private static void nHasAllBits() {
        Due.answer("full inverse of 2^40 + 1", Due.lifted(1099511627777L, Due.LIFTS_TO_64).inverse(), -1099511627775L);
        Due.answer("full inverse of 2^62 + 1", Due.lifted(4611686018427387905L, Due.LIFTS_TO_64).inverse(),
            -4611686018427387903L);
    }

    private static void countIsThree() {
        for (int lifts = 0; lifts <= Due.LIFTS_TO_64 + 1; lifts++) {
            MontInverse m = Due.lifted(3L, lifts);
            m.seed(-1L);
            Due.answer("inverse() after seed(-1) and before it " + lifts + " lifts", m.inverse(), 7L);
            Due.answer("lift() after seed(-1) and before it " + lifts + " lifts", m.lift(), 6L);
        }
    }

    private static void answersThree() {
        for (long before : Due.VALUES) {
            for (int lifts = 0; lifts <= Due.LIFTS_TO_64 + 2; lifts++) {
                for (long v : Due.VALUES) {
                    Due.answer("seed(" + v + ") after " + lifts + " lifts of " + before,
                        Due.lifted(before, lifts).seed(v), 3L);
                }
            }
        }
    }

    private static void nothingSurvives() {
        for (long before : Due.VALUES) {
            for (int lifts = 0; lifts <= Due.LIFTS_TO_64 + 2; lifts++) {
                for (long v : Due.VALUES) {
                    MontInverse used = Due.lifted(before, lifts);
                    used.seed(v);
                    Due.sameFromHere("seed(" + v + ") after " + lifts + " lifts of " + before, used, Due.seeded(v));
                }
            }
        }
    }

    private static void lastSeedHolds() {
        MontInverse m = Due.seeded(5L);
        m.seed(Long.MAX_VALUE);
        m.seed(3L);
        Due.answer("check()", m.check(), 9L);
        Due.answer("inverse()", m.inverse(), 3L);
        Due.answer("lift()", m.lift(), 6L);
    }

    private static void sameValueStartsOver() {
        for (int lifts = 1; lifts <= Due.LIFTS_TO_64 + 1; lifts++) {
            MontInverse m = Due.lifted(11L, lifts);
            m.seed(11L);
            Due.answer("check() after seed(11), " + lifts + " lifts and seed(11)", m.check(), 121L);
            Due.answer("inverse() after seed(11), " + lifts + " lifts and seed(11)", m.inverse(), 3L);
            Due.answer("lift() after seed(11), " + lifts + " lifts and seed(11)", m.lift(), 6L);
        }
    }

    private static void liftingPossibleAgain() {
        MontInverse m = Due.lifted(3L, Due.LIFTS_TO_64);
        Due.answer("lift() at 64", m.lift(), -1L);
        m.seed(5L);
        for (int i = 1; i < Due.COUNTS.length; i++) {
            Due.answer("lift() number " + i + " after seed(5)", m.lift(), Due.COUNTS[i]);
        }
        Due.answer("full inverse of 5", m.inverse(), -3689348814741910323L);
        Due.answer("full check of 5", m.check(), 1L);
    }

    private static void zero() {
        Due.checks(0L, 1L, 1L, 1L, 1L, 1L, 1L);
        Due.inverses(0L, 1L, 1L, 1L, 1L, 1L, 1L);
    }

    private static void minusOne() {
        Due.checks(-1L, 1L, 1L, 1L, 1L, 1L, 1L);
        Due.inverses(-1L, 7L, 63L, 4095L, 16777215L, 281474976710655L, -1L);
    }

    private static void smallest() {
        Due.checks(-9223372036854775808L, 1L, 1L, 1L, 1L, 1L, 1L);
        Due.inverses(-9223372036854775808L, 1L, 1L, 1L, 1L, 1L, -9223372036854775807L);
    }

    private static void largest() {
        Due.checks(9223372036854775807L, 1L, 1L, 1L, 1L, 1L, 1L);
        Due.inverses(9223372036854775807L, 7L, 63L, 4095L, 16777215L, 281474976710655L, 9223372036854775807L);
    }
}
