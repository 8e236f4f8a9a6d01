import java.io.IOException;
import java.lang.reflect.InvocationTargetException;
import java.lang.reflect.Method;
import java.lang.reflect.Modifier;
import java.nio.file.Files;
import java.nio.file.Path;
import java.util.List;
import java.util.regex.Matcher;
import java.util.regex.Pattern;
import java.util.stream.Collectors;
import java.util.stream.Stream;

/** README.md: the calls of its example answer as it says; every call of the face and every test stands in it. */
public final class ReadmeTest {
    private static final Checks CHECKS = new Checks("ReadmeTest");
    private static final Pattern CALL_WITH_ANSWER =
            Pattern.compile("(?m)^    x\\.(\\w+)\\(([^)]*)\\); +// (-?\\d+|true|false)\\b");

    public static void main(String[] args) throws IOException, ReflectiveOperationException {
        Path source = Path.of(args.length > 0 ? args[0] : "src/main/java/CoughParts.java").toAbsolutePath().normalize();
        Path top = source.getParent().getParent().getParent().getParent();
        String readme = Files.readString(top.resolve("README.md"));
        example(readme);
        everyCall(readme);
        everyTest(readme, top.resolve("src/test/java"));
        CHECKS.end();
    }

    private static void example(String readme) throws ReflectiveOperationException {
        CoughParts x = new CoughParts();
        int calls = 0;
        Matcher line = CALL_WITH_ANSWER.matcher(readme);
        while (line.find()) {
            CHECKS.due("x." + line.group(1) + "(" + line.group(2) + ")", call(x, line.group(1), line.group(2)),
                    number(line.group(3)));
            calls++;
        }
        CHECKS.due("every line of the example is a call with its answer", calls,
                Pattern.compile("(?m)^    x\\.").matcher(readme).results().count());
        CHECKS.due("there is an example", calls > 0, true);
    }

    private static long call(CoughParts x, String name, String arguments)
            throws IllegalAccessException, InvocationTargetException {
        Method method = faceMethod(name);
        Class<?>[] types = method.getParameterTypes();
        String[] told = arguments.isEmpty() ? new String[0] : arguments.split(", ");
        Object[] values = new Object[types.length];
        for (int i = 0; i < types.length; i++) {
            values[i] = types[i] == boolean.class ? (Object) Boolean.valueOf(told[i]) : (Object) Integer.decode(told[i]);
        }
        return number(method.invoke(x, values).toString());
    }

    private static Method faceMethod(String name) {
        for (Method method : CoughParts.class.getDeclaredMethods()) {
            if (Modifier.isPublic(method.getModifiers()) && method.getName().equals(name)) {
                return method;
            }
        }
        throw new IllegalStateException("README.md calls " + name + ", which is not of the face");
    }

    private static long number(String answer) {
        return answer.equals("true") ? 1 : answer.equals("false") ? 0 : Long.parseLong(answer);
    }

    /** In a table, as `name(..)` with as many arguments as it takes. */
    private static void everyCall(String readme) {
        for (Method method : CoughParts.class.getDeclaredMethods()) {
            if (Modifier.isPublic(method.getModifiers())) {
                int arguments = method.getParameterCount();
                String form = arguments == 0 ? "" : "\\w+" + ", \\w+".repeat(arguments - 1);
                Pattern row = Pattern.compile("(?m)^\\|[^|]*`" + method.getName() + "\\(" + form + "\\)`");
                CHECKS.due(method.getName() + " stands in README.md", row.matcher(readme).find(), true);
            }
        }
    }

    private static void everyTest(String readme, Path tests) throws IOException {
        try (Stream<Path> files = Files.list(tests)) {
            List<String> names = files.map(file -> file.getFileName().toString()).collect(Collectors.toList());
            for (String name : names) {
                String plain = name.replace(".java", "");
                CHECKS.due(plain + " stands in README.md", readme.contains("`" + plain + "`"), true);
            }
        }
    }
}
