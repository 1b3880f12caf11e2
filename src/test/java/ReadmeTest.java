import java.io.IOException;
import java.lang.reflect.Method;
import java.lang.reflect.Modifier;
import java.nio.file.DirectoryStream;
import java.nio.file.Files;
import java.nio.file.Path;
import java.util.Set;
import java.util.TreeSet;
import java.util.regex.Matcher;
import java.util.regex.Pattern;

/** README.md's examples, run line by line with one object: what stands behind a call is what it must answer. */
public final class ReadmeTest {
    private static final Path README = Path.of("README.md");
    private static final Path TESTS = Path.of("src/test/java");
    private static final String MAKES = "CoatsFitTheMood x = new CoatsFitTheMood();";
    private static final Pattern CALL = Pattern.compile("x\\.(\\w+)\\(([-0-9, ]*)\\); +// (-?\\d+)(: .+)?");
    private static final Pattern FEEDS = Pattern.compile("for \\(char c : \"([^\"\\\\]+)\"\\.toCharArray\\(\\)\\) x\\.feed\\(c\\);");

    private static final Due due = new Due("ReadmeTest");
    private static final Set<String> shown = new TreeSet<>();
    private static CoatsFitTheMood x = null;

    private ReadmeTest() {
    }

    public static void main(String[] args) throws IOException, ReflectiveOperationException {
        boolean example = false;
        for (String line : Files.readAllLines(README)) {
            if (line.startsWith("```")) example = line.equals("```java");
            else if (example) runs(line);
        }
        for (Method method : CoatsFitTheMood.class.getDeclaredMethods()) {
            if (Modifier.isPublic(method.getModifiers())) due.is("an example of " + method.getName(), shown.contains(method.getName()) ? 1 : 0, 1);
        }
        namesEveryTest();
        due.end();
    }

    private static void runs(String line) throws ReflectiveOperationException {
        Matcher call = CALL.matcher(line);
        Matcher feeds = FEEDS.matcher(line);
        if (line.equals(MAKES)) {
            x = new CoatsFitTheMood();
        } else if (feeds.matches() && x != null) {
            Due.feed(x, feeds.group(1));
            shown.add("feed");
        } else if (call.matches() && x != null) {
            due.is(line, answer(call.group(1), call.group(2)), Long.parseLong(call.group(3)));
            shown.add(call.group(1));
        } else {
            due.is("an example that can be run: " + line, 0, 1);
        }
    }

    private static long answer(String name, String numbers) throws ReflectiveOperationException {
        String[] parts = numbers.isEmpty() ? new String[0] : numbers.split(", ");
        Object[] given = new Object[parts.length];
        Class<?>[] types = new Class<?>[parts.length];
        for (int i = 0; i < parts.length; i++) {
            given[i] = Integer.valueOf(parts[i]);
            types[i] = int.class;
        }
        return ((Number) CoatsFitTheMood.class.getMethod(name, types).invoke(x, given)).longValue();
    }

    private static void namesEveryTest() throws IOException {
        String readme = Files.readString(README);
        try (DirectoryStream<Path> tests = Files.newDirectoryStream(TESTS, "*Test.java")) {
            for (Path test : tests) {
                String name = test.getFileName().toString().replace(".java", "");
                due.is("README.md names " + name, readme.contains("| `" + name + "` |") ? 1 : 0, 1);
            }
        }
    }
}
