import java.io.IOException;
import java.lang.reflect.InvocationTargetException;
import java.lang.reflect.Method;
import java.lang.reflect.Modifier;
import java.nio.file.Files;
import java.nio.file.Path;
import java.util.List;
import java.util.regex.Matcher;
import java.util.regex.Pattern;

/** What README.md says of the class: each call of its example answers so, and no call is left out. */
public final class ReadmeTest {
    private static final Path README = Path.of("README.md");
    private static final Pattern CALL = Pattern.compile("chairs\\.(\\w+)\\(([^)]*)\\); +// ([^\\s:]+)(:.*)?");

    private static Object answer(GuestChairs chairs, String name, String arguments) {
        String[] written = arguments.isEmpty() ? new String[0] : arguments.split(", ");
        Class<?>[] types = new Class<?>[written.length];
        Object[] numbers = new Object[written.length];
        for (int i = 0; i < written.length; i++) {
            types[i] = int.class;
            numbers[i] = Integer.valueOf(written[i]);
        }
        try {
            return GuestChairs.class.getMethod(name, types).invoke(chairs, numbers);
        } catch (NoSuchMethodException | IllegalAccessException | InvocationTargetException e) {
            throw new IllegalStateException(e);
        }
    }

    private static void example(Check check, List<String> lines) {
        GuestChairs chairs = new GuestChairs();
        int calls = 0;
        for (String line : lines) {
            Matcher call = CALL.matcher(line);
            if (call.matches()) {
                calls++;
                check.due("README: " + line, call.group(3), () -> answer(chairs, call.group(1), call.group(2)));
            }
        }
        int found = calls;
        long written = lines.stream().filter(line -> line.startsWith("chairs.")).count();
        check.due("README: the calls of the example", written, () -> found);
        check.due("README: there is an example", true, () -> found > 0);
    }

    private static void table(Check check, List<String> lines) {
        for (Method method : GuestChairs.class.getDeclaredMethods()) {
            if (Modifier.isPublic(method.getModifiers())) {
                String call = "`" + method.getName() + "(";
                check.due("README: a row for " + method.getName(), true,
                    () -> lines.stream().anyMatch(line -> line.startsWith("| `") && line.contains(call)));
            }
        }
    }

    public static void main(String[] args) throws IOException {
        Check check = new Check();
        List<String> lines = Files.readAllLines(README);
        example(check, lines);
        table(check, lines);
        check.end();
    }
}
