import java.io.IOException;
import java.lang.reflect.Method;
import java.lang.reflect.Modifier;
import java.net.URL;
import java.net.URLClassLoader;
import java.nio.file.Files;
import java.nio.file.Path;
import java.util.ArrayList;
import java.util.List;
import java.util.TreeSet;
import java.util.regex.Matcher;
import java.util.regex.Pattern;
import java.util.stream.Stream;
import javax.tools.ToolProvider;

/** README.md: what it shows is Java, each call answers as it says, each call and each test is named. */
public final class ReadmeTest {
    private static final Pattern SHOWN = Pattern.compile("(x\\.(\\w+)\\(.*\\)); +// (-?\\d+|[A-Z]+)\\b.*");

    private static List<String> blocks(String page) {
        List<String> found = new ArrayList<>();
        Matcher matcher = Pattern.compile("(?s)```java\n(.*?)```").matcher(page);
        while (matcher.find()) {
            found.add(matcher.group(1));
        }
        return found;
    }

    private static String compared(String line, TreeSet<String> shown) {
        Matcher matcher = SHOWN.matcher(line);
        if (!matcher.matches()) {
            boolean tells = !line.startsWith("x.");
            Due.is("README.md says what is answered: " + line, tells ? 1 : 0, 1);
            return line;
        }
        shown.add(matcher.group(2));
        String due = matcher.group(3);
        due = Character.isUpperCase(due.charAt(0)) ? "FrogsOnRing." + due : due + "L";
        String name = matcher.group(1).replace("\"", "\\\"");
        return "answers.add(\"README.md: " + name + "\"); numbers.add((long) " + matcher.group(1)
            + "); numbers.add((long) " + due + ");";
    }

    // A block that begins with "static" is a method; all others are one run of calls.
    private static String program(List<String> blocks, TreeSet<String> shown) {
        StringBuilder methods = new StringBuilder();
        StringBuilder run = new StringBuilder();
        for (String block : blocks) {
            if (block.startsWith("static")) {
                methods.append(block);
            } else {
                block.lines().forEach(line -> run.append(compared(line, shown)).append('\n'));
            }
        }
        return "public final class Readme {\n" + methods
            + "public static void run(java.util.List<String> answers, java.util.List<Long> numbers) {\n" + run + "}\n}\n";
    }

    private static void runCalls(String program) throws IOException, ReflectiveOperationException {
        Path folder = Files.createTempDirectory("readme");
        Path file = folder.resolve("Readme.java");
        Files.writeString(file, program);
        int failed = ToolProvider.getSystemJavaCompiler().run(null, null, null,
            "-cp", System.getProperty("java.class.path"), "-d", folder.toString(), file.toString());
        Due.is("what README.md shows is Java", failed, 0);
        List<String> answers = new ArrayList<>();
        List<Long> numbers = new ArrayList<>();
        try (URLClassLoader loader = new URLClassLoader(new URL[] {folder.toUri().toURL()})) {
            loader.loadClass("Readme").getMethod("run", List.class, List.class).invoke(null, answers, numbers);
        }
        for (int i = 0; i < answers.size(); i++) {
            Due.is(answers.get(i), numbers.get(2 * i), numbers.get(2 * i + 1));
        }
        for (String name : new String[] {"Readme.java", "Readme.class"}) {
            Files.deleteIfExists(folder.resolve(name));
        }
        Files.deleteIfExists(folder);
    }

    private static void eachCallIsShown(TreeSet<String> shown) {
        for (Method method : FrogsOnRing.class.getDeclaredMethods()) {
            if (Modifier.isPublic(method.getModifiers())) {
                Due.is("README.md shows " + method.getName(), shown.contains(method.getName()) ? 1 : 0, 1);
            }
        }
    }

    private static void eachTestIsNamed(String page) throws IOException {
        TreeSet<String> named = new TreeSet<>();
        Matcher matcher = Pattern.compile("\\| `src/test/java/(\\w+Test\\.java)` \\|").matcher(page);
        while (matcher.find()) {
            named.add(matcher.group(1));
        }
        TreeSet<String> there = new TreeSet<>();
        try (Stream<Path> files = Files.list(Path.of("src/test/java"))) {
            files.map(file -> file.getFileName().toString()).filter(name -> name.endsWith("Test.java"))
                .forEach(there::add);
        }
        Due.is("README.md names the tests that there are: " + there, named.equals(there) ? 1 : 0, 1);
    }

    public static void main(String[] args) throws IOException, ReflectiveOperationException {
        String page = Files.readString(Path.of("README.md"));
        TreeSet<String> shown = new TreeSet<>();
        runCalls(program(blocks(page), shown));
        eachCallIsShown(shown);
        eachTestIsNamed(page);
        Due.end();
    }
}
