import java.io.IOException;
import java.lang.reflect.Method;
import java.nio.file.Files;
import java.nio.file.Path;
import java.util.Arrays;
import java.util.List;
import java.util.regex.Matcher;
import java.util.regex.Pattern;

/** Each call that README.md shows answers the number that stands behind it, and each test is named there. */
public final class ReadmeTest extends Checks {
    private static final Path README = Path.of("README.md");
    private static final Path TESTS = Path.of("src/test/java");
    private static final String MADE = "RopesTieThemselves x = new RopesTieThemselves();";
    private static final Pattern BLOCK = Pattern.compile("```java\n(.*?)```", Pattern.DOTALL);
    private static final Pattern TELLING = Pattern.compile("for \\(char c : \"([^\"]*)\"\\.toCharArray\\(\\)\\) \\{");
    private static final Pattern CALL = Pattern.compile("x\\.(\\w+)\\(([-\\d, ]*)\\); +// (-?\\d+): .+");

    private static int shown = 0;

    public static void main(String[] args) throws IOException {
        String readme = Files.readString(README);
        Matcher block = BLOCK.matcher(readme);
        while (block.find()) {
            showOne(block.group(1).strip().split("\n"));
        }
        must("README.md shows calls", shown >= 20);
        namesTests(readme);
        end("the README's calls answer as it says");
    }

    private static void showOne(String[] lines) {
        RopesTieThemselves x = new RopesTieThemselves();
        must("a block begins with a new object", lines[0].equals(MADE));
        for (int i = 1; i < lines.length; i++) {
            Matcher telling = TELLING.matcher(lines[i]);
            Matcher call = CALL.matcher(lines[i]);
            if (telling.matches()) {
                must("a loop of letters", i + 2 < lines.length && lines[i + 1].equals("    x.letter(c);") && lines[i + 2].equals("}"));
                letters(x, telling.group(1));
                i += 2;
            } else if (call.matches()) {
                shown++;
                due(lines[i], answer(x, call.group(1), call.group(2)), Long.parseLong(call.group(3)));
            } else {
                must("no call with its answer: " + lines[i], false);
            }
        }
    }

    private static long answer(RopesTieThemselves x, String name, String given) {
        Object[] args = given.isEmpty() ? new Object[0] : Arrays.stream(given.split(", ")).map(Integer::valueOf).toArray();
        for (Method method : RopesTieThemselves.class.getMethods()) {
            if (method.getName().equals(name) && method.getParameterCount() == args.length) {
                try {
                    return ((Number) method.invoke(x, args)).longValue();
                } catch (ReflectiveOperationException e) {
                    throw new IllegalStateException(name + " throws", e);
                }
            }
        }
        throw new IllegalStateException("the class has no " + name + " of " + args.length);
    }

    private static void namesTests(String readme) throws IOException {
        List<Path> tests;
        try (var files = Files.list(TESTS)) {
            tests = files.filter(file -> file.toString().endsWith("Test.java")).toList();
        }
        must("there are tests", !tests.isEmpty());
        for (Path file : tests) {
            String name = file.getFileName().toString().replace(".java", "");
            must("README.md names " + name, readme.contains("- `" + name + "`: "));
        }
        must("README.md tells how tests are run", readme.contains("`.ci/run`"));
    }
}
