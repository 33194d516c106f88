import java.lang.reflect.Method;
import java.nio.file.Files;
import java.nio.file.Path;
import java.util.regex.Matcher;
import java.util.regex.Pattern;

/** The example of README.md: each call with the answer that stands behind it. */
public final class ReadmeTest {
    private static final Pattern CALL = Pattern.compile("desk\\.(\\w+)\\(([^)]*)\\); +// (-?\\d+).*");
    private static final Check CHECK = new Check();

    public static void main(String[] args) throws Exception {
        MixfixDesk desk = new MixfixDesk();
        int calls = 0;
        for (String line : Files.readAllLines(Path.of("README.md"))) {
            if (line.startsWith("desk.")) {
                Matcher call = CALL.matcher(line);
                CHECK.holds(line + " is a call with its answer", call.matches());
                CHECK.due(line, answer(desk, call.group(1), call.group(2)), Long.parseLong(call.group(3)));
                calls++;
            }
        }
        CHECK.holds("there is an example", calls > 0);
        CHECK.end();
    }

    private static int answer(MixfixDesk desk, String name, String told) throws Exception {
        String[] numbers = told.isEmpty() ? new String[0] : told.split(", ");
        for (Method method : MixfixDesk.class.getMethods()) {
            if (method.getName().equals(name) && method.getParameterCount() == numbers.length) {
                Object[] values = new Object[numbers.length];
                for (int k = 0; k < numbers.length; k++) {
                    long value = Long.decode(numbers[k].replace("L", ""));
                    values[k] = method.getParameterTypes()[k] == long.class ? (Object) value : (Object) (int) value;
                }
                return (int) method.invoke(desk, values);
            }
        }
        throw new IllegalArgumentException("no such call: " + name);
    }
}
