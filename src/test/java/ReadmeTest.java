import java.io.IOException;
import java.lang.reflect.InvocationTargetException;
import java.lang.reflect.Method;
import java.nio.file.Files;
import java.nio.file.Path;
import java.util.regex.Matcher;
import java.util.regex.Pattern;

/** The examples of README.md: each call whose answer stands behind it answers so. */
public final class ReadmeTest {
    private static final Pattern CALL = Pattern.compile("^x\\.(\\w+)\\(([^)]*)\\);\\s+// (-?\\d+): ");

    public static void main(String[] args) throws IOException, ReflectiveOperationException {
        String page = Files.readString(Path.of("README.md"));
        String[] parts = page.split("```java\n");
        Checks.due("examples", parts.length - 1, 2);
        ask(new DowrySteps(), parts[1]);
        ask(Checks.fine(blockOf(page.split("```text\n")[1])), parts[2]);
        Checks.finish("readme");
    }

    private static String blockOf(String part) {
        return part.substring(0, part.indexOf("```"));
    }

    /** Calls what stands in a block of code, line by line; a line that starts with a call has its answer behind it. */
    private static void ask(DowrySteps x, String part) throws ReflectiveOperationException {
        for (String line : blockOf(part).split("\n")) {
            Matcher call = CALL.matcher(line);
            if (call.find()) {
                Checks.due(line, answer(x, call.group(1), call.group(2)), Long.parseLong(call.group(3)));
            } else {
                Checks.due("whether it makes the object: " + line, line.startsWith("DowrySteps x = ") ? 1 : 0, 1);
            }
        }
    }

    private static long answer(DowrySteps x, String name, String told) throws IllegalAccessException, InvocationTargetException {
        String[] numbers = told.isEmpty() ? new String[0] : told.split(", ");
        for (Method method : DowrySteps.class.getMethods()) {
            if (method.getName().equals(name) && method.getParameterCount() == numbers.length) {
                Object[] given = new Object[numbers.length];
                for (int i = 0; i < given.length; i++) {
                    long number = Long.decode(numbers[i]);
                    boolean wide = method.getParameterTypes()[i] == long.class;
                    given[i] = wide ? (Object) number : (Object) (int) number;
                }
                return ((Number) method.invoke(x, given)).longValue();
            }
        }
        throw new IllegalArgumentException("no call " + name);
    }
}
