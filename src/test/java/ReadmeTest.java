import java.io.StringWriter;
import java.lang.reflect.InvocationTargetException;
import java.lang.reflect.Method;
import java.lang.reflect.Modifier;
import java.net.URL;
import java.net.URLClassLoader;
import java.nio.charset.StandardCharsets;
import java.nio.file.Files;
import java.nio.file.Path;
import java.util.Comparator;
import java.util.List;
import java.util.regex.Matcher;
import java.util.regex.Pattern;
import java.util.stream.Stream;
import javax.tools.JavaCompiler;
import javax.tools.ToolProvider;

/** README.md's rows of Java are compiled as one program, and asked for the answers told behind them; run from the root. */
public final class ReadmeTest {
    private static final Pattern BLOCK = Pattern.compile("```java\n(.*?)```", Pattern.DOTALL);
    private static final Pattern CALL = Pattern.compile("(guard\\.(\\w+)\\([^;]*\\));\\s*// (-?\\d+)(?!\\d).*");

    private static final Check check = new Check();

    public static void main(String[] args) throws Exception {
        String readme = Files.readString(Path.of("README.md"), StandardCharsets.UTF_8);
        StringBuilder rows = new StringBuilder();
        for (Matcher block = BLOCK.matcher(readme); block.find();) rows.append(block.group(1));
        showsEachCall(rows.toString());
        tellsOfEachTest(readme);
        run(programOf(rows.toString()));
        check.end("ReadmeTest");
    }

    private static void showsEachCall(String rows) {
        for (Method method : SneezeGuard.class.getDeclaredMethods()) {
            if (!Modifier.isPublic(method.getModifiers())) continue;
            check.holds("README.md shows " + method.getName(), rows.contains("guard." + method.getName() + "("));
        }
    }

    private static void tellsOfEachTest(String readme) throws Exception {
        for (Path test : filesOf(Path.of("src/test/java"))) {
            String name = test.getFileName().toString().replace(".java", "");
            boolean runs = Files.readString(test, StandardCharsets.UTF_8).contains("static void main(");
            check.holds("README.md tells of " + name, !runs || readme.contains("| `" + name + "` |"));
        }
    }

    private static List<Path> filesOf(Path folder) throws Exception {
        try (Stream<Path> files = Files.list(folder)) {
            return files.filter(file -> file.toString().endsWith(".java")).sorted().toList();
        }
    }

    private static String programOf(String rows) {
        StringBuilder program = new StringBuilder("public final class ReadmeRows { public static void main(String[] args) {\n");
        for (String row : rows.split("\n")) {
            Matcher call = CALL.matcher(row.trim());
            if (call.matches()) {
                program.append("ReadmeTest.due(\"").append(call.group(1)).append("\", ").append(call.group(1)).append(", ")
                    .append(call.group(3)).append("L);\n");
            } else {
                check.holds("an answer is told: " + row, !row.startsWith("guard."));
                program.append(row).append('\n');
            }
        }
        return program.append("} }\n").toString();
    }

    public static void due(String call, long got, long want) {
        check.due(call, got, want);
    }

    private static void run(String program) throws Exception {
        JavaCompiler compiler = ToolProvider.getSystemJavaCompiler();
        if (compiler == null) {
            System.out.println("this java has no compiler: README.md's rows are not tried");
            return;
        }
        Path folder = Files.createTempDirectory("readme");
        try {
            Path source = Files.writeString(folder.resolve("ReadmeRows.java"), program);
            StringWriter said = new StringWriter();
            boolean compiled;
            try (var files = compiler.getStandardFileManager(null, null, null)) {
                List<String> options = List.of("-d", folder.toString(), "-cp", System.getProperty("java.class.path"), "-proc:none");
                compiled = compiler.getTask(said, files, null, options, null, files.getJavaFileObjects(source)).call();
            }
            check.holds("README.md's rows compile: " + said, compiled);
            if (compiled) call(folder.toUri().toURL());
        } finally {
            remove(folder);
        }
    }

    private static void call(URL classes) throws Exception {
        try (URLClassLoader loader = new URLClassLoader(new URL[] {classes}, ReadmeTest.class.getClassLoader())) {
            loader.loadClass("ReadmeRows").getMethod("main", String[].class).invoke(null, (Object) new String[0]);
        } catch (InvocationTargetException e) {
            check.holds("README.md's rows threw " + e.getCause(), false);
        }
    }

    private static void remove(Path folder) throws Exception {
        try (Stream<Path> all = Files.walk(folder)) {
            for (Path path : all.sorted(Comparator.reverseOrder()).toList()) Files.delete(path);
        }
    }
}
