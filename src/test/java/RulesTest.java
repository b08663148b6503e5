import com.sun.source.tree.CompilationUnitTree;
import com.sun.source.util.JavacTask;
import com.sun.source.util.Trees;
import java.io.IOException;
import java.nio.file.Path;
import java.util.List;
import javax.tools.JavaCompiler;
import javax.tools.StandardJavaFileManager;
import javax.tools.ToolProvider;

/**
 * The rules of LANGUAGE.md that the source alone can show, on the compiler's own reading of it;
 * run from the project's root. AnyArgumentsTest has the others, 7 and 11.
 */
public final class RulesTest {
    private static final Path SOURCE = Path.of("src/main/java/ContainerSets.java");

    public static void main(String[] args) throws IOException {
        Checks checks = new Checks("RulesTest");
        JavaCompiler compiler = ToolProvider.getSystemJavaCompiler();
        try (StandardJavaFileManager files = compiler.getStandardFileManager(null, null, null)) {
            JavacTask task = (JavacTask) compiler.getTask(null, files, null, List.of("-proc:none"), null,
                    files.getJavaFileObjects(SOURCE));
            CompilationUnitTree file = task.parse().iterator().next();
            RuleReader reader = new RuleReader(checks, file, Trees.instance(task).getSourcePositions());
            reader.read();
        }
        checks.end();
    }
}
