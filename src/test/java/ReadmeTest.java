import java.io.IOException;
import java.lang.reflect.InvocationTargetException;
import java.lang.reflect.Method;
import java.lang.reflect.Modifier;
import java.nio.file.Files;
import java.nio.file.Path;
import java.util.Arrays;
import java.util.List;
import java.util.Map;
import java.util.TreeMap;
import java.util.regex.Matcher;
import java.util.regex.Pattern;
import java.util.stream.Collectors;
import java.util.stream.Stream;

/** README.md tells the truth: its example answers as written, and its tables leave nothing out. */
public final class ReadmeTest {
    private static final Checks CHECKS = new Checks("ReadmeTest");
    private static final Path README = Path.of("README.md");
    private static final Path TESTS = Path.of("src/test/java");
    private static final Pattern CALL = Pattern.compile("desk\\.(\\w+)\\((.*?)\\);(?:\\s*// (.*))?");
    private static final Pattern ROW = Pattern.compile("(?m)^\\| `(\\w+)\\((.*?)\\)` \\| .* \\|(.*)\\|$");
    /** Lines of the example that make no call on the desk. */
    private static final List<String> FRAME = List.of("ArchiveDesk desk = new ArchiveDesk();", "try {",
            "} catch (IllegalArgumentException e) {", "}");

    private ReadmeTest() {
    }

    private static Map<String, Method> face() {
        return Arrays.stream(ArchiveDesk.class.getDeclaredMethods())
                .filter(method -> Modifier.isPublic(method.getModifiers()))
                .collect(Collectors.toMap(Method::getName, method -> method, (a, b) -> a, TreeMap::new));
    }

    private static int parts(String list) {
        return list.isBlank() ? 0 : list.split(",").length;
    }

    private static void example(String readme) throws ReflectiveOperationException {
        Matcher block = Pattern.compile("(?s)```java\n(.*?)```").matcher(readme);
        CHECKS.due("there is an example", block.find(), true);
        ArchiveDesk desk = new ArchiveDesk();
        for (String line : block.group(1).split("\n")) {
            Matcher call = CALL.matcher(line.trim());
            if (call.matches()) {
                exampleCall(desk, call);
            } else {
                CHECKS.due("can be followed: " + line, FRAME.contains(line.trim()), true);
            }
        }
    }

    /** A call with an answer has it at its comment's beginning, up to a colon or the end. */
    private static void exampleCall(ArchiveDesk desk, Matcher call) throws ReflectiveOperationException {
        Method method = face().get(call.group(1));
        CHECKS.due("a call of the face: " + call.group(1), method != null, true);
        String told = call.group(3) == null ? "" : call.group(3).replaceFirst(":.*", "");
        String got = answer(desk, method, call.group(2));
        CHECKS.due(call.group(), got, got.equals("null") ? "null" : told);
    }

    private static String answer(ArchiveDesk desk, Method method, String list)
            throws ReflectiveOperationException {
        Object[] values = Stream.of(list.split(",")).map(String::trim).filter(part -> !part.isEmpty())
                .map(ReadmeTest::value).toArray();
        try {
            return String.valueOf(method.invoke(desk, values));
        } catch (InvocationTargetException e) {
            return e.getCause().getClass().getSimpleName();
        }
    }

    private static Object value(String part) {
        if (part.equals("true") || part.equals("false")) {
            return part.equals("true");
        }
        return Integer.decode(part);
    }

    private static void calls(String readme) {
        Map<String, Method> missing = face();
        Matcher row = ROW.matcher(readme);
        while (row.find()) {
            Method method = missing.remove(row.group(1));
            CHECKS.due("a call of the face, once: " + row.group(1), method != null, true);
            if (method != null) {
                String thrown = Arrays.stream(method.getExceptionTypes()).map(Class::getSimpleName)
                        .collect(Collectors.joining(", "));
                CHECKS.due(row.group(1) + "'s exceptions", row.group(3).trim(), thrown);
                CHECKS.due(row.group(1) + "'s arguments", parts(row.group(2)), method.getParameterCount());
            }
        }
        CHECKS.due("calls without a row", missing.keySet().toString(), "[]");
    }

    private static void tests(String readme) throws IOException {
        CHECKS.due("how to run the tests", readme.contains("\n.ci/run\n"), true);
        try (Stream<Path> files = Files.list(TESTS)) {
            for (Path file : files.toList()) {
                String name = file.getFileName().toString().replace(".java", "");
                boolean told = readme.contains("| " + name + " |") || readme.contains("`" + name + "`");
                CHECKS.due("is told: " + name, told, true);
            }
        }
    }

    public static void main(String[] args) throws IOException, ReflectiveOperationException {
        String readme = Files.readString(README);
        example(readme);
        calls(readme);
        tests(readme);
        CHECKS.finish();
    }
}
