import java.io.ByteArrayOutputStream;
import java.io.PrintStream;
import java.lang.reflect.Method;
import java.net.URI;
import java.net.URL;
import java.net.URLClassLoader;
import java.nio.file.Files;
import java.nio.file.Path;
import java.util.List;
import java.util.Set;
import java.util.TreeSet;
import javax.tools.JavaCompiler;
import javax.tools.JavaFileObject;
import javax.tools.SimpleJavaFileObject;
import javax.tools.StandardJavaFileManager;
import javax.tools.ToolProvider;

/** README.md: its program prints what stands there, and no method is left out. */
public final class ReadmeTest {
    public static void main(String[] args) throws Exception {
        String readme = Files.readString(Path.of("README.md"));
        String due = block(readme, "```text\n");
        String got = printedBy(block(readme, "```java\n"));
        Due.due("the program of README.md printed\n" + got, got.equals(due) && !due.isEmpty(), true);
        methods(readme);
        Due.end("ReadmeTest");
    }

    private static String block(String readme, String opening) {
        int from = readme.indexOf(opening);
        int to = readme.indexOf("```", from + opening.length());
        return from < 0 || to < 0 ? "" : readme.substring(from + opening.length(), to);
    }

    private static final class Source extends SimpleJavaFileObject {
        private final String code;

        Source(String code) {
            super(URI.create("string:///Harvest.java"), JavaFileObject.Kind.SOURCE);
            this.code = code;
        }

        @Override
        public CharSequence getCharContent(boolean ignored) {
            return code;
        }
    }

    private static String printedBy(String code) throws Exception {
        Path out = Files.createTempDirectory("readme");
        List<String> options = List.of("-proc:none", "-d", out.toString(), "-cp", System.getProperty("java.class.path"));
        JavaCompiler compiler = ToolProvider.getSystemJavaCompiler();
        try (StandardJavaFileManager files = compiler.getStandardFileManager(null, null, null)) {
            boolean compiled = compiler.getTask(null, files, null, options, null, List.of(new Source(code))).call();
            Due.due("the program of README.md compiles", compiled, true);
        }
        ByteArrayOutputStream printed = new ByteArrayOutputStream();
        PrintStream ahead = System.out;
        try (URLClassLoader loader = new URLClassLoader(new URL[] {out.toUri().toURL()})) {
            Method main = loader.loadClass("Harvest").getMethod("main", String[].class);
            System.setOut(new PrintStream(printed, true));
            main.invoke(null, (Object) new String[0]);
        } finally {
            System.setOut(ahead);
            Files.deleteIfExists(out.resolve("Harvest.class"));
            Files.deleteIfExists(out);
        }
        return printed.toString().replace("\r\n", "\n");
    }

    private static void methods(String readme) {
        Set<String> told = new TreeSet<>();
        for (String line : readme.split("\n")) {
            if (line.startsWith("| `")) {
                for (String name : line.substring(2, line.indexOf('|', 2)).split(",")) {
                    told.add(name.replace("`", "").trim());
                }
            }
        }
        Set<String> due = new TreeSet<>();
        for (Method method : SilkRise.class.getMethods()) {
            if (method.getDeclaringClass() == SilkRise.class) {
                due.add(method.getName());
            }
        }
        Due.due("the methods told in README.md: " + told, told.equals(due), true);
    }
}
