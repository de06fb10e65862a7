import java.io.IOException;
import java.lang.reflect.Method;
import java.lang.reflect.Modifier;
import java.nio.file.Files;
import java.nio.file.Path;
import java.util.ArrayList;
import java.util.Arrays;
import java.util.List;
import java.util.regex.Matcher;
import java.util.regex.Pattern;
import java.util.stream.Stream;

/** What README.md shows is so: its example's answers, each method and each test by its name. */
public final class ReadmeTest {
    private static final Check CHECK = new Check();
    private static final Pattern MADE = Pattern.compile("ConceptLattice x = new ConceptLattice\\((\\w+), (\\w+)\\);.*");
    // A call and the answer that its comment begins with, if it begins with one.
    private static final Pattern CALL = Pattern.compile("x\\.(\\w+)\\(([^)]*)\\);(?:\\s*// (-?\\d+)\\b)?.*");

    public static void main(String[] args) throws IOException, ReflectiveOperationException {
        String readme = Files.readString(Path.of("README.md"));
        example(readme);
        everyMethod(readme);
        everyTest(readme);
        CHECK.due("README.md names .ci/run", readme.contains("`.ci/run`") ? 1 : 0, 1);
        CHECK.end();
    }

    private static void example(String readme) throws ReflectiveOperationException {
        String begin = "```java\n";
        int from = readme.indexOf(begin) + begin.length();
        String[] lines = readme.substring(from, readme.indexOf("```", from)).split("\n");
        Matcher made = MADE.matcher(lines[0]);
        CHECK.due("the example makes an object first", made.matches() ? 1 : 0, 1);
        ConceptLattice x = new ConceptLattice(number(made.group(1)), number(made.group(2)));
        int answers = 0;
        for (int k = 1; k < lines.length; k++) {
            Matcher call = CALL.matcher(lines[k]);
            CHECK.due("a call: " + lines[k], call.matches() ? 1 : 0, 1);
            int got = answer(x, call.group(1), call.group(2));
            if (call.group(3) != null) {
                CHECK.due(lines[k], got, Integer.parseInt(call.group(3)));
                answers++;
            }
        }
        CHECK.due("the example tells answers", answers > 0 ? 1 : 0, 1);
    }

    private static int answer(ConceptLattice x, String name, String list) throws ReflectiveOperationException {
        List<Object> arguments = new ArrayList<>();
        if (!list.isEmpty()) {
            for (String argument : list.split(", ")) {
                arguments.add(number(argument));
            }
        }
        Class<?>[] types = new Class<?>[arguments.size()];
        Arrays.fill(types, int.class);
        return (int) ConceptLattice.class.getMethod(name, types).invoke(x, arguments.toArray());
    }

    private static int number(String text) {
        return text.startsWith("0b") ? Integer.parseInt(text.substring(2), 2) : Integer.parseInt(text);
    }

    private static void everyMethod(String readme) {
        for (Method method : ConceptLattice.class.getDeclaredMethods()) {
            if (Modifier.isPublic(method.getModifiers())) {
                boolean named = readme.contains("`" + method.getName() + "(");
                CHECK.due("README.md tells of " + method.getName(), named ? 1 : 0, 1);
            }
        }
    }

    private static void everyTest(String readme) throws IOException {
        try (Stream<Path> files = Files.list(Path.of("src/test/java"))) {
            for (Path file : files.filter(path -> path.toString().endsWith("Test.java")).toList()) {
                String name = file.getFileName().toString().replace(".java", "");
                CHECK.due("README.md tells of " + name, readme.contains("`" + name + "`") ? 1 : 0, 1);
            }
        }
    }
}
