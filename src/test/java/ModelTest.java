/** All promises together, against the document's formulas worked out with BigInteger. */
public final class ModelTest {
    private static final int OBJECTS = 5;

    public static void main(String[] args) {
        Due.test("the same as the model on the edge values", ModelTest::edgeValues);
        Due.test("the same as the model on many values", ModelTest::manyValues);
        Due.test("the same as the model in mixed runs on objects that take turns", ModelTest::mixedRuns);
        Due.end();
    }

    private static void edgeValues() {
        for (long v : Due.VALUES) {
            sameAsModel(v);
        }
    }

    private static void manyValues() {
        long v = 1L;
        for (int i = 0; i < 20000; i++) {
            v = next(v);
            sameAsModel(v >> (i % 64));
        }
    }

    private static void sameAsModel(long v) {
        MontInverse m = new MontInverse();
        Model model = new Model();
        Due.answer("seed(" + v + ")", m.seed(v), model.seed(v));
        for (int count : Due.COUNTS) {
            String where = " of " + v + " at count " + count;
            Due.answer("check()" + where, m.check(), model.check());
            Due.answer("inverse()" + where, m.inverse(), model.inverse());
            Due.answer("lift()" + where, m.lift(), model.lift());
        }
        Due.answer("inverse() at the end of " + v, m.inverse(), model.fullInverse());
        Due.answer("check() at the end of " + v, m.check(), 1L);
    }

    // The other tests call in a set order; here any call may follow any other, in any state.
    private static void mixedRuns() {
        MontInverse[] objects = new MontInverse[OBJECTS];
        Model[] models = new Model[OBJECTS];
        for (int i = 0; i < OBJECTS; i++) {
            objects[i] = new MontInverse();
            models[i] = new Model();
        }
        long state = 1L;
        for (int call = 0; call < 200000; call++) {
            state = next(state);
            int which = (int) ((state >>> 33) % OBJECTS);
            oneCall("call " + call + ", object " + which + ": ", objects[which], models[which], state);
        }
    }

    private static void oneCall(String where, MontInverse m, Model model, long choice) {
        int kind = (int) ((choice >>> 40) % 12L);
        if (kind == 0) {
            sameSeed(where, m, model, Due.VALUES[(int) ((choice >>> 48) % Due.VALUES.length)]);
        } else if (kind == 1) {
            sameSeed(where, m, model, choice >> (choice >>> 58));
        } else if (kind < 8) {
            Due.answer(where + "lift()", m.lift(), model.lift());
        } else if (kind < 10) {
            Due.answer(where + "check()", m.check(), model.check());
        } else {
            Due.answer(where + "inverse()", m.inverse(), model.inverse());
        }
    }

    private static void sameSeed(String where, MontInverse m, Model model, long v) {
        Due.answer(where + "seed(" + v + ")", m.seed(v), model.seed(v));
    }

    // A fixed multiplier instead of a random source: the same values on every run.
    private static long next(long v) {
        return v * 6364136223846793005L + 1442695040888963407L;
    }
}
