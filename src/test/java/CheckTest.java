/** Promise 4: check. */
public final class CheckTest {
    public static void main(String[] args) {
        Due.test("n * x wraps modulo 2^64, with all 64 bits", CheckTest::wraps);
        Due.test("it uses the whole of x, not only the valid bits", CheckTest::usesWholeX);
        Due.test("the answer is not masked, whatever count is", CheckTest::notMasked);
        Due.test("the answer may be negative", CheckTest::mayBeNegative);
        Due.test("it changes nothing", () -> Due.changesNothing(MontInverse::check));
        Due.test("repeated calls give the same answer", CheckTest::repeats);
        Due.test("directly after seed(v) the answer is n * n, wrapping", CheckTest::squareAfterSeed);
        Due.test("after seed(3) it is 9", CheckTest::nineAfterThree);
        Due.test("after seed(-1) it is 1", CheckTest::oneAfterMinusOne);
        Due.test("the lowest count bits are those of 1", CheckTest::lowBitsAreOne);
        Due.test("at count 64 the answer is exactly 1", CheckTest::oneAt64);
        Due.end();
    }

    private static void wraps() {
        Due.answer("check() of 2^32 + 1", Due.seeded(4294967297L).check(), 8589934593L);
        Due.answer("check() of 3037000501", Due.seeded(3037000501L).check(), -9223372030635300615L);
        Due.answer("check() of -12345678901234567", Due.seeded(-12345678901234567L).check(), 4155338597729460529L);
    }

    // The valid bits of x are 3 here, and 11 * 3 = 33.
    private static void usesWholeX() {
        Due.answer("check() of 11 at count 3", Due.seeded(11L).check(), 121L);
        Due.answer("check() of 11 at count 6", Due.lifted(11L, 1).check(), -14399L);
        Due.answer("check() of 11 at count 12", Due.lifted(11L, 2).check(), -207359999L);
        Due.answer("check() of 11 at count 24", Due.lifted(11L, 3).check(), -42998169599999999L);
        Due.answer("check() of 11 at count 48", Due.lifted(11L, 4).check(), -8575135165490135039L);
    }

    // Masked to its lowest count bits, each of these but the last would be 1.
    private static void notMasked() {
        Due.checks(5L, 25L, -575L, -331775L, -110075314175L, 2936065482068852737L, 1L);
    }

    private static void mayBeNegative() {
        Due.answer("check() after seed(30064771071)", Due.seeded(30064771071L).check(), -60129542143L);
        Due.answer("check() after one lift of 3", Due.lifted(3L, 1).check(), -63L);
    }

    private static void repeats() {
        for (int lifts = 0; lifts <= Due.LIFTS_TO_64; lifts++) {
            MontInverse m = Due.lifted(11L, lifts);
            long first = m.check();
            for (int call = 2; call <= 100; call++) {
                Due.answer("check() number " + call + " after " + lifts + " lifts of 11", m.check(), first);
            }
        }
    }

    private static void squareAfterSeed() {
        for (long v : Due.VALUES) {
            long n = v | 1L;
            Due.answer("check() after seed(" + v + ")", Due.seeded(v).check(), n * n);
        }
    }

    private static void nineAfterThree() {
        Due.answer("check()", Due.seeded(3L).check(), 9L);
    }

    private static void oneAfterMinusOne() {
        Due.answer("check()", Due.seeded(-1L).check(), 1L);
    }

    private static void lowBitsAreOne() {
        for (long v : Due.VALUES) {
            for (int lifts = 0; lifts < Due.LIFTS_TO_64; lifts++) {
                long valid = (1L << Due.COUNTS[lifts]) - 1L;
                Due.answer("low " + Due.COUNTS[lifts] + " bits of check() of " + v, Due.lifted(v, lifts).check() & valid, 1L);
            }
        }
    }

    private static void oneAt64() {
        for (long v : Due.VALUES) {
            Due.answer("check() of " + v + " at 64", Due.lifted(v, Due.LIFTS_TO_64).check(), 1L);
        }
    }
}
