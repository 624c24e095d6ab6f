import java.io.ByteArrayOutputStream;
import java.io.IOException;
import java.io.PrintStream;
import java.lang.reflect.Field;
import java.lang.reflect.Method;
import java.lang.reflect.Modifier;
import java.nio.file.Files;
import java.nio.file.Path;
import java.util.Set;
import java.util.TreeSet;
import java.util.regex.Matcher;
import java.util.regex.Pattern;
import java.util.stream.Collectors;
import java.util.stream.Stream;

/** README.md tells of the class and the tests as they are. */
public final class ReadmeTest {
    private static final Path TESTS = Path.of("src/test/java");

    public static void main(String[] args) throws IOException {
        String readme = Files.readString(Path.of("README.md"));
        example(readme);
        calls(readme);
        constants(readme);
        tests(readme);
        Check.end();
    }

    private static void example(String readme) throws IOException {
        Check.due("the example", block(readme, "java"), Files.readString(TESTS.resolve("Example.java")));
        Check.due("what it prints", block(readme, "text"), printed());
    }

    private static String block(String readme, String language) {
        Matcher block = Pattern.compile("(?s)```" + language + "\n(.*?)```").matcher(readme);
        return block.find() ? block.group(1) : "";
    }

    private static String printed() {
        PrintStream out = System.out;
        ByteArrayOutputStream caught = new ByteArrayOutputStream();
        System.setOut(new PrintStream(caught));
        Example.main(new String[0]);
        System.out.flush();
        System.setOut(out);
        return caught.toString().replace(System.lineSeparator(), "\n");
    }

    /** A row of the table for each method, with as many arguments as it takes, and no other row. */
    private static void calls(String readme) {
        Set<String> told = found(readme, "(?m)^\\| `(\\w+\\([\\w, ]*\\))` \\|");
        Set<String> due = new TreeSet<>();
        for (Method method : CrawlFrontier.class.getDeclaredMethods()) {
            if (Modifier.isPublic(method.getModifiers())) {
                due.add(method.getName() + " " + method.getParameterCount());
            }
        }
        Set<String> shapes = new TreeSet<>();
        for (String call : told) {
            String arguments = call.substring(call.indexOf('(') + 1, call.length() - 1);
            int count = arguments.isEmpty() ? 0 : arguments.split(",").length;
            shapes.add(call.substring(0, call.indexOf('(')) + " " + count);
        }
        Check.due("calls", shapes.toString(), due.toString());
    }

    private static void constants(String readme) {
        Set<String> told = found(readme, "`([A-Z]+_[A-Z_]*[A-Z]|DUPLICATE|DISALLOWED|FULL)`");
        Set<String> known = new TreeSet<>();
        for (Field field : CrawlFrontier.class.getDeclaredFields()) {
            if (Modifier.isPublic(field.getModifiers())) {
                known.add(field.getName());
            }
        }
        Check.due("constants", told.toString(), known.toString());
    }

    private static void tests(String readme) throws IOException {
        Set<String> due;
        try (Stream<Path> files = Files.list(TESTS)) {
            due = files.map(file -> file.getFileName().toString()).filter(name -> name.endsWith("Test.java"))
                    .map(name -> name.replace(".java", "")).collect(Collectors.toCollection(TreeSet::new));
        }
        Check.due("tests", found(readme, "`(\\w+Test)`").toString(), due.toString());
        Check.due("how to run them", readme.contains("\n    .ci/run\n") ? 1 : 0, 1);
    }

    private static Set<String> found(String readme, String pattern) {
        return Pattern.compile(pattern).matcher(readme).results().map(match -> match.group(1))
                .collect(Collectors.toCollection(TreeSet::new));
    }
}
