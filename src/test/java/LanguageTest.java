import com.sun.source.tree.CompilationUnitTree;
import com.sun.source.util.JavacTask;
import com.sun.source.util.Trees;
import java.io.IOException;
import java.io.StringWriter;
import java.nio.file.Files;
import java.nio.file.Path;
import java.util.List;
import javax.tools.JavaCompiler;
import javax.tools.StandardJavaFileManager;
import javax.tools.ToolProvider;

/** The rules of ../shared/LANGUAGE.md that can be seen in the class as it is written. */
public final class LanguageTest {
    private LanguageTest() {
    }

    public static void main(String[] args) throws IOException {
        Path source = Path.of(args.length > 0 ? args[0] : "src/main/java/LastKeg.java");
        JavaCompiler compiler = ToolProvider.getSystemJavaCompiler();
        StringWriter said = new StringWriter();
        try (StandardJavaFileManager files = compiler.getStandardFileManager(null, null, null)) {
            JavacTask task = (JavacTask) compiler.getTask(said, files, null, List.of("-proc:none"), null,
                files.getJavaFileObjects(source));
            CompilationUnitTree unit = task.parse().iterator().next();
            task.analyze();
            Check.holds("it compiles: " + said, said.toString().isEmpty());
            Trees trees = Trees.instance(task);
            new LanguageShape(unit, trees).all();
            new LanguageCalls(unit, trees).all();
        }
        plain(Files.readAllBytes(source));
        Check.finish();
    }

    /** No sign that another machine might read in another way. */
    private static void plain(byte[] file) {
        int odd = 0;
        for (byte b : file) {
            odd += b == '\n' || b >= ' ' && b < 127 ? 0 : 1;
        }
        Check.due("4: signs in the file that are not plain", odd, 0);
    }
}
