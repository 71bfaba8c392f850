/** Promise 5: inverse. */
public final class InverseTest {
    public static void main(String[] args) {
        Due.test("at count 64 the answer is x itself, all 64 bits", InverseTest::wholeXAt64);
        Due.test("at count 64 the answer may be negative", InverseTest::mayBeNegativeAt64);
        Due.test("at count 3 the answer is the lowest 3 bits of x", () -> lowBits(0, 3L, 5L, 7L));
        Due.test("at count 6 the answer is the lowest 6 bits of x", () -> lowBits(1, 35L, 29L, 63L));
        Due.test("at count 12 the answer is the lowest 12 bits of x", () -> lowBits(2, 2979L, 1821L, 4095L));
        Due.test("at count 24 the answer is the lowest 24 bits of x", () -> lowBits(3, 3050403L, 14812957L, 16777215L));
        Due.test("at count 48 the answer is the lowest 48 bits of x",
            () -> lowBits(4, 179120439724963L, 192384132581149L, 281474976710655L));
        Due.test("below 64 the answer is never negative, even when x is", InverseTest::neverNegativeBelow64);
        Due.test("below 64 the answer is less than 2^count", InverseTest::lessThanTwoToTheCount);
        Due.test("it changes nothing", () -> Due.changesNothing(MontInverse::inverse));
        Due.test("the bits above the valid ones take part in later calls of check()", InverseTest::upperBitsInCheck);
        Due.test("the bits above the valid ones take part in later calls of lift()", InverseTest::upperBitsInLift);
        Due.test("after seed(-1) the answer is 7", InverseTest::minusOneAt3);
        Due.test("after seed(-1) and one lift it is 63", InverseTest::minusOneAt6);
        Due.test("after seed(-1), once count is 64, it is -1", InverseTest::minusOneAt64);
        Due.end();
    }

    private static void wholeXAt64() {
        Due.answer("inverse() of 11 at 64", Due.lifted(11L, Due.LIFTS_TO_64).inverse(), 3353953467947191203L);
        Due.answer("inverse() of 2^63 - 1 at 64", Due.lifted(Long.MAX_VALUE, Due.LIFTS_TO_64).inverse(), Long.MAX_VALUE);
        for (long v : Due.VALUES) {
            MontInverse m = Due.lifted(v, Due.LIFTS_TO_64);
            Due.answer("(v | 1) * inverse() of " + v, (v | 1L) * m.inverse(), 1L);
        }
    }

    private static void mayBeNegativeAt64() {
        Due.answer("inverse() of 3 at 64", Due.lifted(3L, Due.LIFTS_TO_64).inverse(), -6148914691236517205L);
        Due.answer("inverse() of 5 at 64", Due.lifted(5L, Due.LIFTS_TO_64).inverse(), -3689348814741910323L);
        Due.answer("inverse() of 1 - 2^63 at 64", Due.lifted(Long.MIN_VALUE, Due.LIFTS_TO_64).inverse(), Long.MIN_VALUE + 1L);
    }

    private static void lowBits(int lifts, long ofEleven, long ofLarge, long ofMinusOne) {
        Due.answer("inverse() of 11", Due.lifted(11L, lifts).inverse(), ofEleven);
        Due.answer("inverse() of 3037000501", Due.lifted(3037000501L, lifts).inverse(), ofLarge);
        Due.answer("inverse() of -1", Due.lifted(-1L, lifts).inverse(), ofMinusOne);
    }

    private static void neverNegativeBelow64() {
        for (long v : Due.VALUES) {
            for (int lifts = 0; lifts < Due.LIFTS_TO_64; lifts++) {
                long answer = Due.lifted(v, lifts).inverse();
                Due.holds("inverse() of " + v + " after " + lifts + " lifts, " + answer + ", at least 0", answer >= 0L);
            }
        }
    }

    private static void lessThanTwoToTheCount() {
        for (long v : Due.VALUES) {
            for (int lifts = 0; lifts < Due.LIFTS_TO_64; lifts++) {
                long answer = Due.lifted(v, lifts).inverse();
                Due.holds("inverse() of " + v + " after " + lifts + " lifts, " + answer + ", below 2^" + Due.COUNTS[lifts],
                    answer < 1L << Due.COUNTS[lifts]);
            }
        }
    }

    private static void upperBitsInCheck() {
        long[] want = {121L, -14399L, -207359999L, -42998169599999999L, -8575135165490135039L, 1L};
        for (int lifts = 0; lifts < want.length; lifts++) {
            MontInverse m = Due.lifted(11L, lifts);
            m.inverse();
            Due.answer("check() after inverse() at count " + Due.COUNTS[lifts], m.check(), want[lifts]);
        }
    }

    // 11 cut to its three valid bits is 3; lifted from there, check() would be -1023 at count 6.
    private static void upperBitsInLift() {
        long[] want = {-14399L, -207359999L, -42998169599999999L, -8575135165490135039L, 1L};
        for (int lifts = 0; lifts < want.length; lifts++) {
            MontInverse m = Due.lifted(11L, lifts);
            m.inverse();
            m.lift();
            Due.answer("check() after inverse() at count " + Due.COUNTS[lifts] + " and lift()", m.check(), want[lifts]);
        }
    }

    private static void minusOneAt3() {
        Due.answer("inverse()", Due.seeded(-1L).inverse(), 7L);
    }

    private static void minusOneAt6() {
        Due.answer("inverse()", Due.lifted(-1L, 1).inverse(), 63L);
    }

    private static void minusOneAt64() {
        Due.answer("inverse()", Due.lifted(-1L, Due.LIFTS_TO_64).inverse(), -1L);
    }
}
