import com.sun.source.tree.CompilationUnitTree;
import com.sun.source.tree.Tree;
import com.sun.source.util.JavacTask;
import com.sun.source.util.SourcePositions;
import com.sun.source.util.Trees;
import java.io.IOException;
import java.nio.file.Path;
import java.util.List;
import javax.tools.JavaCompiler;
import javax.tools.StandardJavaFileManager;
import javax.tools.ToolProvider;

/** The program's file as the compiler reads it, for the tests that hold its text to LANGUAGE.md. */
final class ProgramText {
    private final CompilationUnitTree unit;
    private final SourcePositions positions;

    ProgramText() throws IOException {
        JavaCompiler compiler = ToolProvider.getSystemJavaCompiler();
        try (StandardJavaFileManager files = compiler.getStandardFileManager(null, null, null)) {
            var sources = files.getJavaFileObjects(Path.of("src/main/java/LazyModules.java"));
            JavacTask task = (JavacTask) compiler.getTask(null, files, null, List.of("-proc:none"), null, sources);
            unit = task.parse().iterator().next();
            positions = Trees.instance(task).getSourcePositions();
        }
    }

    CompilationUnitTree unit() {
        return unit;
    }

    long start(Tree tree) {
        return positions.getStartPosition(unit, tree);
    }

    long firstLine(Tree tree) {
        return unit.getLineMap().getLineNumber(start(tree));
    }

    long lastLine(Tree tree) {
        return unit.getLineMap().getLineNumber(positions.getEndPosition(unit, tree));
    }
}
