import java.lang.reflect.Constructor;
import java.lang.reflect.Field;
import java.lang.reflect.Method;
import java.lang.reflect.Modifier;
import java.util.Arrays;
import java.util.TreeSet;

/** The sections 'What it is', 'The public face' and, as far as it shows from outside, 'Limits on the class'. */
public final class WholeClassTest {
    public static void main(String[] args) {
        Due.test("n is always odd", WholeClassTest::nIsAlwaysOdd);
        Due.test("count is always one of 3, 6, 12, 24, 48, 64", WholeClassTest::countIsOneOfSix);
        Due.test("arithmetic wraps modulo 2^64: check", WholeClassTest::checkWraps);
        Due.test("arithmetic wraps modulo 2^64: lift", WholeClassTest::liftWraps);
        Due.test("nothing ever throws, for every argument and in every state", WholeClassTest::nothingThrows);
        Due.test("each object has its own n", WholeClassTest::ownN);
        Due.test("each object has its own x", WholeClassTest::ownX);
        Due.test("each object has its own count", WholeClassTest::ownCount);
        Due.test("a new object does not affect another", WholeClassTest::newObjectTouchesNoOther);
        Due.test("the class has no public constants", WholeClassTest::noPublicConstants);
        Due.test("no visible members beyond the face", WholeClassTest::noMembersBeyondFace);
        Due.test("the class is public and final and stands alone", WholeClassTest::classStandsAlone);
        Due.test("no private method bears the name of a public one", WholeClassTest::noSharedNames);
        Due.test("fields are whole numbers or arrays of them, static ones int or long constants", WholeClassTest::fieldTypes);
        Due.end();
    }

    // An even n would make the product even.
    private static void nIsAlwaysOdd() {
        for (long v : Due.VALUES) {
            Due.answer("lowest bit of check() after seed(" + v + ")", Due.seeded(v).check() & 1L, 1L);
        }
    }

    private static void countIsOneOfSix() {
        for (long v : Due.VALUES) {
            MontInverse m = Due.seeded(v);
            for (int call = 0; call < 20; call++) {
                int answer = m.lift();
                boolean known = answer == -1;
                for (int count : Due.COUNTS) {
                    known = known || answer == count;
                }
                Due.holds("lift() of " + v + " answering " + answer + " as a count or a refusal", known);
            }
        }
    }

    private static void checkWraps() {
        // (2^32 + 1)^2 = 2^64 + 2^33 + 1
        Due.answer("check() of 2^32 + 1", Due.seeded(4294967297L).check(), 8589934593L);
        // (2^62 + 1)^2 = 2^124 + 2^63 + 1
        Due.answer("check() of 2^62 + 1", Due.seeded(4611686018427387905L).check(), -9223372036854775807L);
        // (2^63 - 1)^2 = 2^126 - 2^64 + 1
        Due.answer("check() of 2^63 - 1", Due.seeded(9223372036854775807L).check(), 1L);
    }

    // n * x, 2 - n * x and the last product leave the range of long at one step or another.
    private static void liftWraps() {
        Due.checks(3037000501L, -9223372030635300615L, -1788383516484333631L, -7886775407783448575L,
            -6718136747194056703L, 8214284245347074049L, 1L);
        Due.inverses(3037000501L, 5L, 29L, 1821L, 14812957L, 192384132581149L, -4391098727530363107L);
    }

    private static void nothingThrows() {
        for (long v : Due.VALUES) {
            for (int lifts = 0; lifts <= Due.LIFTS_TO_64 + 1; lifts++) {
                Due.lifted(v, lifts).check();
                Due.lifted(v, lifts).inverse();
                Due.lifted(v, lifts).lift();
                for (long next : Due.VALUES) {
                    Due.lifted(v, lifts).seed(next);
                }
            }
        }
    }

    // With both at count 64, check() is 1 only where n still fits x.
    private static void ownN() {
        MontInverse first = Due.lifted(3L, Due.LIFTS_TO_64);
        MontInverse second = Due.lifted(5L, Due.LIFTS_TO_64);
        Due.answer("check() of the first object", first.check(), 1L);
        Due.answer("check() of the second object", second.check(), 1L);
    }

    private static void ownX() {
        MontInverse first = Due.lifted(3L, Due.LIFTS_TO_64);
        MontInverse second = Due.lifted(5L, Due.LIFTS_TO_64);
        Due.answer("inverse() of the first object", first.inverse(), -6148914691236517205L);
        Due.answer("inverse() of the second object", second.inverse(), -3689348814741910323L);
    }

    private static void ownCount() {
        MontInverse first = Due.lifted(3L, Due.LIFTS_TO_64);
        MontInverse second = Due.lifted(3L, 1);
        Due.answer("lift() of the first object", first.lift(), -1L);
        Due.answer("lift() of the second object", second.lift(), 12L);
        Due.answer("lift() of the first object again", first.lift(), -1L);
        first.seed(3L);
        Due.answer("lift() of the second object after seed of the first", second.lift(), 24L);
    }

    private static void newObjectTouchesNoOther() {
        MontInverse old = Due.lifted(11L, 2);
        MontInverse fresh = new MontInverse();
        Due.answer("check() of the old object", old.check(), -207359999L);
        Due.answer("inverse() of the old object", old.inverse(), 2979L);
        Due.answer("lift() of the old object", old.lift(), 24L);
        Due.answer("check() of the new object", fresh.check(), 1L);
        Due.answer("inverse() of the new object", fresh.inverse(), 1L);
        Due.answer("lift() of the new object", fresh.lift(), 6L);
    }

    private static void noPublicConstants() {
        Due.text("the public fields", Arrays.toString(MontInverse.class.getFields()), "[]");
    }

    private static void noMembersBeyondFace() {
        TreeSet<String> seen = new TreeSet<>();
        for (Method m : MontInverse.class.getDeclaredMethods()) {
            if (!Modifier.isPrivate(m.getModifiers())) {
                seen.add(m.toString());
            }
        }
        for (Constructor<?> c : MontInverse.class.getDeclaredConstructors()) {
            if (!Modifier.isPrivate(c.getModifiers())) {
                seen.add(c.toString());
            }
        }
        for (Field f : MontInverse.class.getDeclaredFields()) {
            if (!Modifier.isPrivate(f.getModifiers())) {
                seen.add(f.toString());
            }
        }
        TreeSet<String> listed = new TreeSet<>(Arrays.asList(
            "public MontInverse()",
            "public int MontInverse.seed(long)",
            "public int MontInverse.lift()",
            "public long MontInverse.check()",
            "public long MontInverse.inverse()"));
        Due.text("the public face", seen.toString(), listed.toString());
    }

    private static void classStandsAlone() {
        Class<?> c = MontInverse.class;
        Due.text("the modifiers", Modifier.toString(c.getModifiers()), "public final");
        Due.text("the superclass", c.getSuperclass().getName(), "java.lang.Object");
        Due.text("the interfaces", Arrays.toString(c.getInterfaces()), "[]");
        Due.text("the nested classes", Arrays.toString(c.getDeclaredClasses()), "[]");
    }

    private static void noSharedNames() {
        TreeSet<String> names = new TreeSet<>();
        for (Method m : MontInverse.class.getDeclaredMethods()) {
            if (!Modifier.isPrivate(m.getModifiers())) {
                names.add(m.getName());
            }
        }
        for (Method m : MontInverse.class.getDeclaredMethods()) {
            if (Modifier.isPrivate(m.getModifiers())) {
                Due.holds("a name of its own for " + m, !names.contains(m.getName()));
            }
        }
    }

    private static void fieldTypes() {
        for (Field f : MontInverse.class.getDeclaredFields()) {
            Class<?> type = f.getType();
            Class<?> element = type.isArray() ? type.getComponentType() : type;
            Due.holds("a whole number in " + f,
                element.isPrimitive() && element != float.class && element != double.class);
            if (Modifier.isStatic(f.getModifiers())) {
                Due.holds("an int or long constant in " + f,
                    Modifier.isFinal(f.getModifiers()) && (type == int.class || type == long.class));
            }
        }
    }
}
