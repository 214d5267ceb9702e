import java.io.IOException;
import java.lang.reflect.Method;
import java.lang.reflect.Modifier;
import java.nio.file.Files;
import java.nio.file.Path;
import java.util.List;
import java.util.regex.Matcher;
import java.util.regex.Pattern;
import java.util.stream.Stream;

/** README.md: the calls of its example answer what it says, and it names every call and every test. */
public final class ReadmeTest {
    private static final Check CHECK = new Check();
    private static final Pattern CALL = Pattern.compile("^x\\.(\\w+)\\((.*)\\);\\s*// (-?[0-9]+):.*$");

    private ReadmeTest() {
    }

    public static void main(String[] args) throws IOException, ReflectiveOperationException {
        String readme = Files.readString(Path.of("README.md"));
        example(readme);
        namesEveryCall(readme);
        namesEveryTest(readme);
        CHECK.finish();
    }

    private static void example(String readme) throws ReflectiveOperationException {
        Matcher block = Pattern.compile("```java\n(.*?)```", Pattern.DOTALL).matcher(readme);
        CHECK.due("README has an example", block.find(), true);
        SandGlasses x = new SandGlasses();
        List<String> lines = block.group(1).lines().toList();
        CHECK.due("the example begins with a new object", lines.get(0).equals("SandGlasses x = new SandGlasses();"), true);
        for (String line : lines.subList(1, lines.size())) {
            Matcher call = CALL.matcher(line);
            CHECK.due("a call with its answer: " + line, call.matches(), true);
            if (call.matches()) {
                CHECK.due(line, answer(x, call.group(1), call.group(2).split(", ")), Long.parseLong(call.group(3)));
            }
        }
    }

    /** All calls of the example have numbers alone. */
    private static long answer(SandGlasses x, String name, String[] numbers) throws ReflectiveOperationException {
        Class<?>[] types = new Class<?>[numbers.length];
        Object[] given = new Object[numbers.length];
        for (int i = 0; i < numbers.length; i++) {
            types[i] = int.class;
            given[i] = numbers[i].equals("SandGlasses.NONE") ? SandGlasses.NONE : Integer.decode(numbers[i]);
        }
        return ((Number) SandGlasses.class.getMethod(name, types).invoke(x, given)).longValue();
    }

    private static void namesEveryCall(String readme) {
        for (Method method : SandGlasses.class.getDeclaredMethods()) {
            boolean open = Modifier.isPublic(method.getModifiers());
            CHECK.due("README names " + method.getName(), !open || readme.contains("`" + method.getName() + "`"), true);
        }
    }

    private static void namesEveryTest(String readme) throws IOException {
        try (Stream<Path> files = Files.list(Path.of("src/test/java"))) {
            for (Path file : files.toList()) {
                String name = file.getFileName().toString().replace(".java", "");
                boolean test = name.endsWith("Test") || name.endsWith("Boundaries");
                CHECK.due("README names " + name, !test || readme.contains("`" + name + "`"), true);
            }
        }
    }
}
