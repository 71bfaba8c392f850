/** Promise 3: lift. */
public final class LiftTest {
    public static void main(String[] args) {
        Due.test("at count 64 the answer is -1", LiftTest::refusesAt64);
        Due.test("at count 64 x stays as it is", LiftTest::refusalKeepsX);
        Due.test("at count 64 n stays as it is", LiftTest::refusalKeepsN);
        Due.test("at count 64 count stays as it is", LiftTest::refusalKeepsCount);
        Due.test("the refusal holds for every further call until the next seed", LiftTest::refusesUntilSeed);
        Due.test("below 64 lift does not refuse", LiftTest::doesNotRefuseBelow64);
        Due.test("x becomes x * (2 - n * x), the old x throughout", LiftTest::oldXThroughout);
        Due.test("every operation wraps modulo 2^64", LiftTest::everyOperationWraps);
        Due.test("x is not cut down before the step", LiftTest::notCutBefore);
        Due.test("x is not cut down after the step", LiftTest::notCutAfter);
        Due.test("count is doubled", LiftTest::countDoubles);
        Due.test("a doubled count above 64 is set to 64", LiftTest::countStopsAt64);
        Due.test("the answer is the new count", LiftTest::answersNewCount);
        Due.test("n does not change", LiftTest::keepsN);
        Due.test("after any seed lift answers 6, 12, 24, 48, 64, then -1 each time, whatever n", LiftTest::runOfAnswers);
        Due.test("the step from 48 to 64 is a full lifting step", LiftTest::lastStepIsFull);
        Due.test("check() and inverse() in between do not alter the answers", LiftTest::readsInBetween);
        Due.end();
    }

    private static void refusesAt64() {
        for (long v : Due.VALUES) {
            Due.answer("lift() of " + v + " at 64", Due.lifted(v, Due.LIFTS_TO_64).lift(), -1L);
        }
    }

    private static void refusalKeepsX() {
        for (long v : Due.VALUES) {
            long before = Due.lifted(v, Due.LIFTS_TO_64).inverse();
            Due.answer("inverse() of " + v + " after a refusal", Due.lifted(v, Due.LIFTS_TO_64 + 1).inverse(), before);
        }
        Due.answer("inverse() of 3 after a refusal", Due.lifted(3L, Due.LIFTS_TO_64 + 1).inverse(), -6148914691236517205L);
    }

    private static void refusalKeepsN() {
        for (long v : Due.VALUES) {
            Due.answer("check() of " + v + " after a refusal", Due.lifted(v, Due.LIFTS_TO_64 + 1).check(), 1L);
        }
    }

    // A count of -1 or 128 would show as a mask on the answer, or as a new count in place of a refusal.
    private static void refusalKeepsCount() {
        MontInverse m = Due.lifted(-1L, Due.LIFTS_TO_64 + 1);
        Due.answer("inverse() of -1 after a refusal", m.inverse(), -1L);
        Due.answer("lift() after a refusal", m.lift(), -1L);
    }

    private static void refusesUntilSeed() {
        MontInverse m = Due.lifted(3L, Due.LIFTS_TO_64);
        for (int call = 1; call <= 1000; call++) {
            Due.answer("refused lift() number " + call, m.lift(), -1L);
            Due.answer("inverse() after refusal " + call, m.inverse(), -6148914691236517205L);
            Due.answer("check() after refusal " + call, m.check(), 1L);
        }
        m.seed(3L);
        Due.answer("lift() after seed", m.lift(), 6L);
    }

    private static void doesNotRefuseBelow64() {
        for (int lifts = 0; lifts < Due.LIFTS_TO_64; lifts++) {
            Due.answer("lift() at count " + Due.COUNTS[lifts], Due.lifted(7L, lifts).lift(), Due.COUNTS[lifts + 1]);
        }
        // n * x is 1 from the start here: no bit is gained, and still the count goes on.
        for (int lifts = 0; lifts < Due.LIFTS_TO_64; lifts++) {
            Due.answer("lift() of 1 at count " + Due.COUNTS[lifts], Due.lifted(1L, lifts).lift(), Due.COUNTS[lifts + 1]);
        }
    }

    // 3 * (2 - 9) = -21 and -21 * (2 + 63) = -1365
    private static void oldXThroughout() {
        Due.answer("check() after one lift of 3", Due.lifted(3L, 1).check(), -63L);
        Due.answer("inverse() after one lift of 3", Due.lifted(3L, 1).inverse(), 43L);
        Due.answer("check() after two lifts of 3", Due.lifted(3L, 2).check(), -4095L);
        Due.answer("inverse() after two lifts of 3", Due.lifted(3L, 2).inverse(), 2731L);
    }

    private static void everyOperationWraps() {
        Due.checks(-12345678901234567L, 4155338597729460529L, 4646300183852390145L, -1305332621815906303L,
            -6818075044107780095L, 1L, 1L);
        Due.checks(25769803781L, 257698037785L, -12369505813055L, -14249670696308735L,
            7782220046020902913L, 2936065482068852737L, 1L);
    }

    // 11 cut to three bits is 3, and 11 * 3 * (2 - 11 * 3) is -1023, not -14399.
    private static void notCutBefore() {
        Due.checks(11L, 121L, -14399L, -207359999L, -42998169599999999L, -8575135165490135039L, 1L);
    }

    // -21 cut to six bits is 43, and 3 * 43 is 129, not -63.
    private static void notCutAfter() {
        Due.checks(3L, 9L, -63L, -4095L, -16777215L, -281474976710655L, 1L);
    }

    private static void countDoubles() {
        Due.answer("lift() at 3", Due.lifted(5L, 0).lift(), 6L);
        Due.answer("lift() at 6", Due.lifted(5L, 1).lift(), 12L);
        Due.answer("lift() at 12", Due.lifted(5L, 2).lift(), 24L);
        Due.answer("lift() at 24", Due.lifted(5L, 3).lift(), 48L);
    }

    private static void countStopsAt64() {
        Due.answer("lift() at 48", Due.lifted(5L, 4).lift(), 64L);
        Due.answer("inverse() of -1 after it", Due.lifted(-1L, 5).inverse(), -1L);
        Due.answer("lift() after it", Due.lifted(5L, 5).lift(), -1L);
    }

    // The inverse of -1 has a one in every valid bit, so it shows the count.
    private static void answersNewCount() {
        MontInverse m = Due.seeded(-1L);
        for (int i = 1; i < Due.COUNTS.length; i++) {
            int answer = m.lift();
            Due.answer("valid bits of -1", Long.bitCount(m.inverse()), answer);
        }
    }

    // The product of the true inverse of v and n is 1 for n = v alone.
    private static void keepsN() {
        Due.answer("full inverse of 3", Due.lifted(3L, Due.LIFTS_TO_64).inverse(), -6148914691236517205L);
        Due.answer("full inverse of 11", Due.lifted(11L, Due.LIFTS_TO_64).inverse(), 3353953467947191203L);
        Due.answer("full inverse of 25769803781", Due.lifted(25769803781L, Due.LIFTS_TO_64).inverse(), 4427218576659500237L);
        for (long v : Due.VALUES) {
            MontInverse m = Due.lifted(v, Due.LIFTS_TO_64);
            Due.answer("(v | 1) * inverse() of " + v, (v | 1L) * m.inverse(), 1L);
            Due.answer("check() of " + v, m.check(), 1L);
        }
    }

    private static void runOfAnswers() {
        MontInverse reused = new MontInverse();
        for (long v : Due.VALUES) {
            reused.seed(v);
            for (int i = 1; i < Due.COUNTS.length; i++) {
                Due.answer("lift " + i + " after seed(" + v + ")", reused.lift(), Due.COUNTS[i]);
            }
            for (int i = 0; i < 3; i++) {
                Due.answer("lift past 64 after seed(" + v + ")", reused.lift(), -1L);
            }
        }
    }

    private static void lastStepIsFull() {
        Due.answer("check() of 3 at 48", Due.lifted(3L, 4).check(), -281474976710655L);
        Due.answer("check() of 3 at 64", Due.lifted(3L, 5).check(), 1L);
        Due.answer("inverse() of 3 at 48", Due.lifted(3L, 4).inverse(), 187649984473771L);
        Due.answer("inverse() of 3 at 64", Due.lifted(3L, 5).inverse(), -6148914691236517205L);
        Due.answer("inverse() of 11 at 48", Due.lifted(11L, 4).inverse(), 179120439724963L);
        Due.answer("inverse() of 11 at 64", Due.lifted(11L, 5).inverse(), 3353953467947191203L);
    }

    private static void readsInBetween() {
        for (long v : Due.VALUES) {
            MontInverse checked = Due.seeded(v);
            MontInverse read = Due.seeded(v);
            for (int i = 1; i < Due.COUNTS.length; i++) {
                checked.check();
                read.inverse();
                Due.answer("lift " + i + " of " + v + " after check()", checked.lift(), Due.COUNTS[i]);
                Due.answer("lift " + i + " of " + v + " after inverse()", read.lift(), Due.COUNTS[i]);
            }
            checked.check();
            read.inverse();
            Due.answer("lift past 64 of " + v + " after check()", checked.lift(), -1L);
            Due.answer("lift past 64 of " + v + " after inverse()", read.lift(), -1L);
        }
    }
}
