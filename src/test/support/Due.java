import java.util.function.Consumer;

/** What the tests share: the count of wrong answers, and the values that many of them go through. */
final class Due {
    static final int[] COUNTS = {3, 6, 12, 24, 48, 64};
    static final int LIFTS_TO_64 = 5;
    static final long[] VALUES = {
        0L, 1L, -1L, 2L, -2L, 3L, -3L, 4L, 5L, 6L, 7L, 8L, 9L, 11L, 15L, 16L, 63L, 64L, 255L, 256L,
        2147483647L, 2147483648L, -2147483648L, -2147483649L, 3037000501L, 4294967295L, 4294967296L,
        4294967297L, -4294967295L, 25769803781L, 281474976710655L, 281474976710657L,
        -12345678901234567L, 6148914691236517205L, -6148914691236517206L, 4611686018427387904L,
        4611686018427387905L, Long.MIN_VALUE, Long.MIN_VALUE + 1L, Long.MAX_VALUE, Long.MAX_VALUE - 1L
    };

    private static int tests = 0;
    private static int wrong = 0;
    private static String sentence = "";

    private Due() {
    }

    /** Runs the one test of a sentence of the document; what it prints is told under that sentence. */
    static void test(String ofSentence, Runnable body) {
        tests++;
        sentence = ofSentence;
        try {
            body.run();
        } catch (RuntimeException | Error thrown) {
            tellWrong("threw " + thrown);
        }
    }

    static void answer(String call, long got, long want) {
        if (got != want) {
            tellWrong(call + " answered " + got + ", due is " + want);
        }
    }

    static void text(String what, String got, String want) {
        if (!got.equals(want)) {
            tellWrong(what + " is " + got + ", due is " + want);
        }
    }

    static void holds(String what, boolean held) {
        if (!held) {
            tellWrong(what + " does not hold");
        }
    }

    private static void tellWrong(String what) {
        wrong++;
        System.out.println("[" + sentence + "] " + what);
    }

    static void end() {
        System.out.println(tests + " tests, " + (wrong == 0 ? "all answers are as due" : wrong + " answers are not as due"));
        if (wrong != 0) {
            System.exit(1);
        }
    }

    static MontInverse seeded(long v) {
        MontInverse m = new MontInverse();
        m.seed(v);
        return m;
    }

    static MontInverse lifted(long v, int lifts) {
        MontInverse m = seeded(v);
        for (int i = 0; i < lifts; i++) {
            m.lift();
        }
        return m;
    }

    /** Goes through every count from here on and past the refusal: the whole state shows in these answers. */
    static void sameFromHere(String what, MontInverse got, MontInverse want) {
        for (int step = 0; step <= COUNTS.length; step++) {
            answer(what + ", step " + step + ": check()", got.check(), want.check());
            answer(what + ", step " + step + ": inverse()", got.inverse(), want.inverse());
            answer(what + ", step " + step + ": lift()", got.lift(), want.lift());
        }
    }

    /** In every state: each call after the read answers as on an object that nobody has read. */
    static void changesNothing(Consumer<MontInverse> read) {
        for (long v : VALUES) {
            for (int lifts = 0; lifts <= LIFTS_TO_64 + 1; lifts++) {
                String where = " after " + lifts + " lifts of " + v + " and a read";
                answer("check()" + where, readOnce(v, lifts, read).check(), lifted(v, lifts).check());
                answer("inverse()" + where, readOnce(v, lifts, read).inverse(), lifted(v, lifts).inverse());
                answer("lift()" + where, readOnce(v, lifts, read).lift(), lifted(v, lifts).lift());
                MontInverse later = readOnce(v, lifts, read);
                later.lift();
                answer("check() a lift later" + where, later.check(), lifted(v, lifts + 1).check());
            }
        }
    }

    private static MontInverse readOnce(long v, int lifts, Consumer<MontInverse> read) {
        MontInverse m = lifted(v, lifts);
        read.accept(m);
        return m;
    }

    /** check() at each count from 3 to 64, after seed(v). */
    static void checks(long v, long... want) {
        MontInverse m = seeded(v);
        for (int i = 0; i < COUNTS.length; i++) {
            answer("check() of " + v + " at count " + COUNTS[i], m.check(), want[i]);
            m.lift();
        }
    }

    /** inverse() at each count from 3 to 64, after seed(v). */
    static void inverses(long v, long... want) {
        MontInverse m = seeded(v);
        for (int i = 0; i < COUNTS.length; i++) {
            answer("inverse() of " + v + " at count " + COUNTS[i], m.inverse(), want[i]);
            m.lift();
        }
    }
}
