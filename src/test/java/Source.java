import com.sun.source.tree.CompilationUnitTree;
import com.sun.source.tree.Tree;
import com.sun.source.util.JavacTask;
import com.sun.source.util.SourcePositions;
import com.sun.source.util.TreeScanner;
import com.sun.source.util.Trees;
import java.io.IOException;
import java.nio.file.Path;
import java.util.ArrayList;
import java.util.List;
import java.util.Locale;
import javax.tools.JavaCompiler;
import javax.tools.StandardJavaFileManager;
import javax.tools.ToolProvider;

/** A Java file as a syntax tree, so that the tests that read code do not hang on how it is laid out. */
final class Source {
    final CompilationUnitTree unit;
    private final SourcePositions positions;

    private Source(CompilationUnitTree unit, SourcePositions positions) {
        this.unit = unit;
        this.positions = positions;
    }

    static Source parse(Path file) throws IOException {
        JavaCompiler compiler = ToolProvider.getSystemJavaCompiler();
        try (StandardJavaFileManager files = compiler.getStandardFileManager(null, Locale.ROOT, null)) {
            JavacTask task = (JavacTask) compiler.getTask(
                null, files, null, null, null, files.getJavaFileObjects(file));
            CompilationUnitTree unit = task.parse().iterator().next();
            return new Source(unit, Trees.instance(task).getSourcePositions());
        }
    }

    /** The tree itself and all below it that are of this type, in the order of the text. */
    static <T> List<T> nodes(Tree root, Class<T> type) {
        List<T> found = new ArrayList<>();
        new TreeScanner<Void, Void>() {
            @Override
            public Void scan(Tree tree, Void none) {
                if (type.isInstance(tree)) {
                    found.add(type.cast(tree));
                }
                return super.scan(tree, none);
            }
        }.scan(root, null);
        return found;
    }

    long start(Tree tree) {
        return positions.getStartPosition(unit, tree);
    }

    long line(Tree tree) {
        return unit.getLineMap().getLineNumber(start(tree));
    }

    long lines(Tree tree) {
        return unit.getLineMap().getLineNumber(positions.getEndPosition(unit, tree)) - line(tree) + 1;
    }
}
