import java.io.IOException;
import java.lang.reflect.Method;
import java.lang.reflect.Modifier;
import java.net.URL;
import java.net.URLClassLoader;
import java.nio.file.DirectoryStream;
import java.nio.file.Files;
import java.nio.file.Path;
import java.util.Set;
import java.util.TreeSet;
import java.util.regex.Matcher;
import java.util.regex.Pattern;
import javax.tools.ToolProvider;

/**
 * Each answer that README.md shows for a call is the one that the class gives. The shown lines are compiled as they
 * stand, so a line that a reader could not use is told too.
 */
public final class ReadmeTest {
    private static final String NAME = "ReadmeShown";
    private static final Pattern BLOCK = Pattern.compile("(?ms)^```java\\n(.*?)^```$");
    private static final Pattern CALL = Pattern.compile("\\s*(?:int (\\w+) = )?(t\\.(\\w+)\\(.*?\\)); +// (.*)");
    private static final Pattern CODE = Pattern.compile("`([A-Z_]+)` \\((-?\\d+)\\)");

    private static int shown = 0;
    private static int wrong = 0;

    public static void main(String[] args) throws Exception {
        String readme = Files.readString(Path.of("README.md"));
        checkAnswers(readme);
        checkCodes(readme);
        checkTestsAreNamed(readme);
        System.out.println(shown + " shown answers, " + wrong + " things that are not as README.md says");
        if (wrong != 0) {
            System.exit(1);
        }
    }

    /** Public, because the compiled lines come from another class loader. */
    public static void due(String call, int got, int want) {
        shown++;
        check(got == want, call + " answered " + got + ", README.md shows " + want);
    }

    private static void check(boolean holds, String what) {
        if (!holds) {
            wrong++;
            System.out.println("not so: " + what);
        }
    }

    private static void checkAnswers(String readme) throws Exception {
        Set<String> called = new TreeSet<>();
        StringBuilder program = new StringBuilder("public final class " + NAME + " { public static void run() {\n");
        Matcher block = BLOCK.matcher(readme);
        while (block.find()) {
            block.group(1).lines().forEach(line -> program.append(checked(line, called)).append('\n'));
        }
        check(called.equals(answeringCalls()), "README.md shows " + called + ", but the calls are " + answeringCalls());
        run(program.append("} }\n").toString());
    }

    /** A line without a call is only made ready for the next ones, and merge alone has no answer to show. */
    private static String checked(String line, Set<String> called) {
        Matcher call = CALL.matcher(line);
        if (!call.matches()) {
            check(line.equals("t.merge();") || !line.contains("t."), "a call is shown with its answer: " + line);
            return line;
        }
        called.add(call.group(3));
        String answer = call.group(4).split(":", 2)[0];
        String due = "ReadmeTest.due(\"" + call.group(2) + "\", ";
        if (call.group(1) == null) {
            return due + call.group(2) + ", " + answer + ");";
        }
        return line + "\n" + due + call.group(1) + ", " + answer + ");";
    }

    private static Set<String> answeringCalls() {
        Set<String> names = new TreeSet<>();
        for (Method m : BlockKdTrees.class.getDeclaredMethods()) {
            if (Modifier.isPublic(m.getModifiers()) && m.getReturnType() == int.class) {
                names.add(m.getName());
            }
        }
        return names;
    }

    private static void run(String program) throws Exception {
        Path dir = Files.createTempDirectory("readme");
        try {
            Path source = Files.writeString(dir.resolve(NAME + ".java"), program);
            int compiled = ToolProvider.getSystemJavaCompiler().run(null, null, null,
                "-cp", System.getProperty("java.class.path"), "-d", dir.toString(), source.toString());
            check(compiled == 0, "the lines that README.md shows compile");
            if (compiled == 0) {
                runCompiled(dir);
            }
        } finally {
            delete(dir);
        }
    }

    private static void runCompiled(Path dir) throws Exception {
        try (URLClassLoader loader = new URLClassLoader(new URL[] {dir.toUri().toURL()})) {
            loader.loadClass(NAME).getMethod("run").invoke(null);
        }
    }

    private static void delete(Path dir) throws IOException {
        try (DirectoryStream<Path> files = Files.newDirectoryStream(dir)) {
            for (Path file : files) {
                Files.delete(file);
            }
        }
        Files.delete(dir);
    }

    private static void checkCodes(String readme) throws Exception {
        Set<String> told = new TreeSet<>();
        Matcher code = CODE.matcher(readme);
        while (code.find()) {
            told.add(code.group(1));
            int value = BlockKdTrees.class.getField(code.group(1)).getInt(null);
            check(value == Integer.parseInt(code.group(2)), code.group() + " is " + value);
        }
        check(told.equals(Set.of("BAD_ARG", "FULL", "NONE")), "README.md tells each code's value, not only " + told);
    }

    private static void checkTestsAreNamed(String readme) throws IOException {
        try (DirectoryStream<Path> tests = Files.newDirectoryStream(Path.of("src/test/java"), "*.java")) {
            for (Path test : tests) {
                check(readme.contains(test.getFileName().toString()), "README.md names " + test);
            }
        }
    }
}
