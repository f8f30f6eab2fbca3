import java.io.IOException;
import java.lang.reflect.InvocationTargetException;
import java.net.URL;
import java.net.URLClassLoader;
import java.nio.file.Files;
import java.nio.file.Path;
import java.util.ArrayList;
import java.util.Comparator;
import java.util.List;
import java.util.regex.Matcher;
import java.util.regex.Pattern;
import java.util.stream.Stream;
import javax.tools.JavaCompiler;
import javax.tools.ToolProvider;

/**
 * The Java blocks of README.md, compiled and run in their order: each call answers what the comment behind it says. A
 * block that begins with "static" is a method for the others.
 */
public final class ReadmeExample {
    private static final Path README = Path.of("README.md");
    private static final Pattern BLOCK = Pattern.compile("(?s)```java\n(.*?)```");
    private static final Pattern ANSWERED = Pattern.compile("(court\\..*\\));\\s*// (-?\\d+|true|false|throws \\w+)(:.*)?");
    private static final Pattern SILENT = Pattern.compile("SomeAreNoneIs court = new SomeAreNoneIs\\(\\);|write\\(court, \"[^\"]*\"\\);");
    private static final int FEWEST_CALLS = 20;
    /** The class that is made of the page. */
    private static final String MADE = "Shown";

    private static final List<String> calls = new ArrayList<>();
    private static final List<String> due = new ArrayList<>();
    private static int wrong = 0;

    private static void fail(String what) {
        wrong++;
        System.out.println(what);
    }

    private static String sourceOf(String page) {
        StringBuilder methods = new StringBuilder();
        StringBuilder run = new StringBuilder();
        Matcher blocks = BLOCK.matcher(page);
        while (blocks.find()) {
            if (blocks.group(1).startsWith("static ")) {
                methods.append(blocks.group(1));
            } else {
                blocks.group(1).lines().forEach(line -> run.append(statementOf(line)));
            }
        }
        return "public final class " + MADE + " {\n" + methods
            + "public static java.util.List<String> answers() {\njava.util.List<String> all = new java.util.ArrayList<>();\n"
            + run + "return all;\n}\n}\n";
    }

    private static String statementOf(String line) {
        Matcher answered = ANSWERED.matcher(line);
        if (answered.matches()) {
            calls.add(answered.group(1));
            due.add(answered.group(2));
            return "try { all.add(String.valueOf(" + answered.group(1)
                + ")); } catch (RuntimeException e) { all.add(\"throws \" + e.getClass().getSimpleName()); }\n";
        }
        if (!SILENT.matcher(line).matches()) {
            fail("README.md gives no answer for: " + line);
        }
        return line + "\n";
    }

    private static List<String> answersOf(String source, Path folder) throws IOException, ReflectiveOperationException {
        Path file = folder.resolve(MADE + ".java");
        Files.writeString(file, source);
        JavaCompiler javac = ToolProvider.getSystemJavaCompiler();
        if (javac == null || javac.run(null, null, null, "-classpath", System.getProperty("java.class.path"),
                "-d", folder.toString(), file.toString()) != 0) {
            fail("what README.md shows does not compile");
            return List.of();
        }
        List<String> answers = new ArrayList<>();
        try (URLClassLoader loader = new URLClassLoader(new URL[] {folder.toUri().toURL()}, ReadmeExample.class.getClassLoader())) {
            for (Object answer : (List<?>) loader.loadClass(MADE).getMethod("answers").invoke(null)) {
                answers.add((String) answer);
            }
        } catch (InvocationTargetException e) {
            fail("what README.md shows threw " + e.getCause());
        }
        return answers;
    }

    private static void compare(List<String> answers) {
        if (due.size() < FEWEST_CALLS || answers.size() != due.size()) {
            fail("README.md shows " + due.size() + " calls, of which " + answers.size() + " have answered");
        }
        for (int i = 0; i < answers.size() && i < due.size(); i++) {
            if (!answers.get(i).equals(due.get(i))) {
                fail(calls.get(i) + " answered " + answers.get(i) + ", README.md says " + due.get(i));
            }
        }
    }

    private static void delete(Path folder) throws IOException {
        List<Path> files;
        try (Stream<Path> all = Files.walk(folder)) {
            files = all.sorted(Comparator.reverseOrder()).toList();
        }
        for (Path file : files) {
            Files.delete(file);
        }
    }

    public static void main(String[] args) throws IOException, ReflectiveOperationException {
        Path folder = Files.createTempDirectory("readme");
        try {
            compare(answersOf(sourceOf(Files.readString(README)), folder));
        } finally {
            delete(folder);
        }
        System.out.println(calls.size() + " calls that README.md shows, " + wrong + " answers are not as it says");
        if (wrong != 0) {
            System.exit(1);
        }
    }
}
