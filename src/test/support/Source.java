import com.sun.source.tree.ArrayTypeTree;
import com.sun.source.tree.CompilationUnitTree;
import com.sun.source.tree.ExpressionTree;
import com.sun.source.tree.MemberSelectTree;
import com.sun.source.tree.MethodInvocationTree;
import com.sun.source.tree.Tree;
import com.sun.source.util.JavacTask;
import com.sun.source.util.TreeScanner;
import java.io.IOException;
import java.io.InputStream;
import java.io.UncheckedIOException;
import java.nio.charset.StandardCharsets;
import java.util.ArrayList;
import java.util.List;
import javax.tools.JavaCompiler;
import javax.tools.StandardJavaFileManager;
import javax.tools.ToolProvider;

/** Java source as javac's own parser reads it. */
final class Source {
    private Source() {
    }

    static CompilationUnitTree parse(String path) {
        JavaCompiler compiler = ToolProvider.getSystemJavaCompiler();
        try (StandardJavaFileManager files = compiler.getStandardFileManager(null, null, null)) {
            JavacTask task = (JavacTask) compiler.getTask(null, files, null, null, null, files.getJavaFileObjects(path));
            return task.parse().iterator().next();
        } catch (IOException unreadable) {
            throw new UncheckedIOException(unreadable);
        }
    }

    /** The root and everything below it. */
    static List<Tree> within(Tree root) {
        List<Tree> found = new ArrayList<>();
        new TreeScanner<Void, Void>() {
            @Override
            public Void scan(Tree tree, Void nothing) {
                if (tree != null) {
                    found.add(tree);
                }
                return super.scan(tree, nothing);
            }
        }.scan(root, null);
        return found;
    }

    static <T extends Tree> List<T> only(List<Tree> trees, Class<T> kind) {
        List<T> found = new ArrayList<>();
        for (Tree tree : trees) {
            if (kind.isInstance(tree)) {
                found.add(kind.cast(tree));
            }
        }
        return found;
    }

    /** A primitive type, or a one-dimensional array of one. */
    static boolean isPlain(Tree type) {
        Tree element = type instanceof ArrayTypeTree ? ((ArrayTypeTree) type).getType() : type;
        return element != null && element.getKind() == Tree.Kind.PRIMITIVE_TYPE;
    }

    static String nameOf(MethodInvocationTree call) {
        ExpressionTree method = call.getMethodSelect();
        return method instanceof MemberSelectTree ? ((MemberSelectTree) method).getIdentifier().toString() : method.toString();
    }

    /** The class file, a character for each byte: the names in it can be read. */
    static String compiledText(Class<?> compiled) {
        try (InputStream bytes = compiled.getResourceAsStream(compiled.getName() + ".class")) {
            return new String(bytes.readAllBytes(), StandardCharsets.ISO_8859_1);
        } catch (IOException unreadable) {
            throw new UncheckedIOException(unreadable);
        }
    }
}
