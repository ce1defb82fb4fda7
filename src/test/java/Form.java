import com.sun.source.tree.CompilationUnitTree;
import com.sun.source.tree.LineMap;
import com.sun.source.tree.Tree;
import com.sun.source.util.JavacTask;
import com.sun.source.util.SourcePositions;
import com.sun.source.util.TreePath;
import com.sun.source.util.Trees;
import java.io.IOException;
import java.io.UncheckedIOException;
import java.nio.file.Path;
import java.util.List;
import javax.lang.model.element.Element;
import javax.lang.model.type.TypeMirror;
import javax.tools.JavaCompiler;
import javax.tools.StandardJavaFileManager;
import javax.tools.ToolProvider;

/** The text of the class as javac reads it, with what each name in it means. */
final class Form {

    final CompilationUnitTree unit;
    private final Trees trees;
    private final SourcePositions positions;
    private final LineMap lines;

    private Form(CompilationUnitTree unit, Trees trees) {
        this.unit = unit;
        this.trees = trees;
        positions = trees.getSourcePositions();
        lines = unit.getLineMap();
    }

    static Form read(String file) {
        JavaCompiler compiler = ToolProvider.getSystemJavaCompiler();
        StandardJavaFileManager files = compiler.getStandardFileManager(null, null, null);
        JavacTask task = (JavacTask) compiler.getTask(null, files, null, List.of("-proc:none"), null,
                files.getJavaFileObjects(Path.of(file)));
        try {
            CompilationUnitTree unit = task.parse().iterator().next();
            task.analyze();
            return new Form(unit, Trees.instance(task));
        } catch (IOException e) {
            throw new UncheckedIOException(e);
        }
    }

    Element element(TreePath path) {
        return trees.getElement(path);
    }

    TypeMirror type(TreePath path) {
        return trees.getTypeMirror(path);
    }

    long lineOf(Tree tree) {
        return lines.getLineNumber(positions.getStartPosition(unit, tree));
    }

    /** From the first line of it to the last one. */
    long linesOf(Tree tree) {
        return lines.getLineNumber(positions.getEndPosition(unit, tree)) - lineOf(tree) + 1;
    }
}
