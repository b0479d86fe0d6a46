import java.io.IOException;
import java.lang.reflect.Method;
import java.lang.reflect.Modifier;
import java.nio.file.Files;
import java.nio.file.Path;
import java.util.List;
import java.util.regex.Matcher;
import java.util.regex.Pattern;
import java.util.stream.Stream;

/** What README.md says: the calls of its example, and the names of what there is. */
public final class ReadmeTests {
    private static final Path README = Path.of("README.md");
    private static final Path TESTS = Path.of("src/test/java");
    private static final int LEAST_CALLS = 15;
    private static final Pattern CALL = Pattern.compile("^hub\\.(\\w+)\\(([-0-9, ]*)\\);\\s+// (-?\\d+):");
    private static final Pattern TEXT = Pattern.compile("^String text = \"(.*)\";$");

    public static void main(String[] args) throws IOException, ReflectiveOperationException {
        Check check = new Check("ReadmeTests");
        List<String> lines = Files.readAllLines(README);
        example(check, lines);
        methods(check, lines);
        tests(check, lines);
        check.finish();
    }

    private static void example(Check check, List<String> lines) throws ReflectiveOperationException {
        check.test("the example answers what stands behind each call");
        SensorHub hub = new SensorHub();
        int calls = 0;
        for (String line : lines) {
            Matcher text = TEXT.matcher(line);
            if (text.find()) {
                Hubs.write(hub, text.group(1));
            }
            Matcher call = CALL.matcher(line);
            if (call.find()) {
                calls++;
                check.due(line, answer(hub, call.group(1), call.group(2)), Integer.parseInt(call.group(3)));
            } else {
                check.isTrue("an answer stands behind " + line, !line.startsWith("hub."));
            }
        }
        check.isTrue("the example has its calls", calls >= LEAST_CALLS);
    }

    private static int answer(SensorHub hub, String name, String arguments) throws ReflectiveOperationException {
        Integer[] numbers = Pattern.compile("-?\\d+").matcher(arguments).results()
                .map(found -> Integer.valueOf(found.group())).toArray(Integer[]::new);
        Class<?>[] types = Stream.of(numbers).map(number -> int.class).toArray(Class<?>[]::new);
        return (Integer) SensorHub.class.getMethod(name, types).invoke(hub, (Object[]) numbers);
    }

    private static void methods(Check check, List<String> lines) {
        check.test("each public method is named");
        for (Method method : SensorHub.class.getDeclaredMethods()) {
            check.isTrue(method.getName() + " is named", method.isSynthetic()
                    || Modifier.isPrivate(method.getModifiers()) || names(lines, method.getName()));
        }
    }

    private static void tests(Check check, List<String> lines) throws IOException {
        check.test("each test is named, and .ci/run that runs them");
        check.isTrue(".ci/run is named", String.join("\n", lines).contains("`bash .ci/run`"));
        try (Stream<Path> files = Files.list(TESTS)) {
            for (Path file : files.toList()) {
                String name = file.getFileName().toString().replace(".java", "");
                check.isTrue(name + " is named", names(lines, name));
            }
        }
    }

    private static boolean names(List<String> lines, String name) {
        return String.join("\n", lines).contains("`" + name + "`");
    }
}
