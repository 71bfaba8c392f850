import com.sun.source.tree.BlockTree;
import com.sun.source.tree.ClassTree;
import com.sun.source.tree.CompilationUnitTree;
import com.sun.source.tree.MemberSelectTree;
import com.sun.source.tree.MethodInvocationTree;
import com.sun.source.tree.MethodTree;
import com.sun.source.tree.ModifiersTree;
import com.sun.source.tree.PrimitiveTypeTree;
import com.sun.source.tree.Tree;
import com.sun.source.tree.TypeCastTree;
import com.sun.source.tree.VariableTree;
import java.util.EnumSet;
import java.util.List;
import java.util.Map;
import java.util.Set;
import java.util.TreeMap;
import java.util.TreeSet;
import javax.lang.model.element.Modifier;
import javax.lang.model.type.TypeKind;

/**
 * The section 'Limits on the class' and the rules of LANGUAGE.md, as far as the parsed source shows them.
 * Bounded loops, guarded divisions and arrays made at the start are allowed there; the class needs none of them,
 * and to have none is the plainest thing to test.
 */
public final class LimitsTest {
    private static final CompilationUnitTree UNIT = Source.parse("src/main/java/MontInverse.java");
    private static final List<Tree> ALL = Source.within(UNIT);

    public static void main(String[] args) {
        Due.test("one class in the file, no package, no import, no nested class", LimitsTest::oneClass);
        Due.test("every type is a whole number, boolean or an array of these", LimitsTest::wholeNumberTypes);
        Due.test("no other class is used", LimitsTest::noOtherClass);
        Due.test("no method creates anything", () -> none(Tree.Kind.NEW_CLASS, Tree.Kind.NEW_ARRAY));
        Due.test("no throw, try, catch, assert, synchronized, instanceof, lambda or method reference", LimitsTest::bannedWords);
        Due.test("no cast of a reference", LimitsTest::castsOfNumbersOnly);
        Due.test("no recursion", LimitsTest::noRecursion);
        Due.test("no float or double", LimitsTest::noFloatOrDouble);
        Due.test("no static initialiser, and static fields are compile-time constants", LimitsTest::constantStatics);
        Due.test("no call can throw or fail to end", LimitsTest::nothingThatThrowsOrLoops);
        Due.test("at most seven parameters, and no call inside the arguments of another", LimitsTest::plainCalls);
        Due.end();
    }

    private static void oneClass() {
        Due.holds("no package line", UNIT.getPackage() == null);
        Due.answer("number of imports", UNIT.getImports().size(), 0L);
        Due.answer("number of classes", Source.only(ALL, ClassTree.class).size(), 1L);
    }

    private static void wholeNumberTypes() {
        for (VariableTree variable : Source.only(ALL, VariableTree.class)) {
            Due.holds("a type of LANGUAGE.md in " + variable, Source.isPlain(variable.getType()));
        }
        for (MethodTree method : Source.only(ALL, MethodTree.class)) {
            Tree answered = method.getReturnType();
            Due.holds("a primitive answer of " + method.getName(),
                answered == null || answered.getKind() == Tree.Kind.PRIMITIVE_TYPE);
        }
    }

    // Without literals of a class, a member of another class or a method that is not declared here, none is left.
    private static void noOtherClass() {
        none(Tree.Kind.STRING_LITERAL, Tree.Kind.NULL_LITERAL, Tree.Kind.ANNOTATION);
        for (MemberSelectTree member : Source.only(ALL, MemberSelectTree.class)) {
            Due.holds("a member of this object or the length of an array in " + member,
                member.getExpression().toString().equals("this") || member.getIdentifier().contentEquals("length"));
        }
        Set<String> declared = calls().keySet();
        for (MethodInvocationTree call : Source.only(ALL, MethodInvocationTree.class)) {
            Due.holds("a method of this class in " + call, declared.contains(Source.nameOf(call)));
        }
        ClassTree main = (ClassTree) UNIT.getTypeDecls().get(0);
        Due.holds("no superclass", main.getExtendsClause() == null);
        Due.answer("number of interfaces", main.getImplementsClause().size(), 0L);
    }

    private static void bannedWords() {
        none(Tree.Kind.THROW, Tree.Kind.TRY, Tree.Kind.CATCH, Tree.Kind.ASSERT, Tree.Kind.SYNCHRONIZED,
            Tree.Kind.INSTANCE_OF, Tree.Kind.LAMBDA_EXPRESSION, Tree.Kind.MEMBER_REFERENCE);
        for (ModifiersTree modifiers : Source.only(ALL, ModifiersTree.class)) {
            Due.holds("no synchronized in " + modifiers, !modifiers.getFlags().contains(Modifier.SYNCHRONIZED));
        }
    }

    private static void castsOfNumbersOnly() {
        for (TypeCastTree cast : Source.only(ALL, TypeCastTree.class)) {
            Due.holds("a cast to a number in " + cast, cast.getType().getKind() == Tree.Kind.PRIMITIVE_TYPE);
        }
    }

    // Methods that call only methods already taken away are taken away; those in a circle stay.
    private static void noRecursion() {
        Map<String, Set<String>> left = calls();
        boolean shrunk = true;
        while (shrunk) {
            Set<String> names = new TreeSet<>(left.keySet());
            shrunk = left.values().removeIf(called -> called.stream().noneMatch(names::contains));
        }
        Due.text("the methods that call themselves, also through others", left.keySet().toString(), "[]");
    }

    private static void noFloatOrDouble() {
        none(Tree.Kind.FLOAT_LITERAL, Tree.Kind.DOUBLE_LITERAL);
        for (PrimitiveTypeTree type : Source.only(ALL, PrimitiveTypeTree.class)) {
            TypeKind kind = type.getPrimitiveTypeKind();
            Due.holds("a whole number in " + type, kind != TypeKind.FLOAT && kind != TypeKind.DOUBLE);
        }
    }

    // The compiler makes a <clinit> wherever a static field has a value that is not a compile-time constant.
    private static void constantStatics() {
        for (BlockTree block : Source.only(ALL, BlockTree.class)) {
            Due.holds("no static block", !block.isStatic());
        }
        Due.holds("no <clinit> in the compiled class", !Source.compiledText(MontInverse.class).contains("<clinit>"));
    }

    // These are all that could: with none of them, and no recursion, every call returns for every argument.
    private static void nothingThatThrowsOrLoops() {
        none(Tree.Kind.DIVIDE, Tree.Kind.REMAINDER, Tree.Kind.DIVIDE_ASSIGNMENT, Tree.Kind.REMAINDER_ASSIGNMENT,
            Tree.Kind.ARRAY_ACCESS, Tree.Kind.THROW, Tree.Kind.NEW_CLASS, Tree.Kind.NEW_ARRAY,
            Tree.Kind.FOR_LOOP, Tree.Kind.ENHANCED_FOR_LOOP, Tree.Kind.WHILE_LOOP, Tree.Kind.DO_WHILE_LOOP);
    }

    private static void plainCalls() {
        for (MethodTree method : Source.only(ALL, MethodTree.class)) {
            Due.holds("at most seven parameters of " + method.getName(), method.getParameters().size() <= 7);
        }
        for (MethodInvocationTree call : Source.only(ALL, MethodInvocationTree.class)) {
            for (Tree argument : call.getArguments()) {
                Due.holds("no call in the arguments of " + call,
                    Source.only(Source.within(argument), MethodInvocationTree.class).isEmpty());
            }
        }
    }

    private static void none(Tree.Kind first, Tree.Kind... others) {
        Set<Tree.Kind> banned = EnumSet.of(first, others);
        for (Tree tree : ALL) {
            Due.holds("no " + tree.getKind() + " in " + tree, !banned.contains(tree.getKind()));
        }
    }

    /** The names of the methods, each with the names that it calls. */
    private static Map<String, Set<String>> calls() {
        Map<String, Set<String>> calls = new TreeMap<>();
        for (MethodTree method : Source.only(ALL, MethodTree.class)) {
            Set<String> called = calls.computeIfAbsent(method.getName().toString(), name -> new TreeSet<>());
            for (MethodInvocationTree call : Source.only(Source.within(method), MethodInvocationTree.class)) {
                called.add(Source.nameOf(call));
            }
        }
        return calls;
    }
}
