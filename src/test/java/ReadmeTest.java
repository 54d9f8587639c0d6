import java.io.IOException;
import java.lang.reflect.Method;
import java.nio.file.Files;
import java.nio.file.Path;
import java.util.regex.Matcher;
import java.util.regex.Pattern;

/** The calls that README.md shows answer as it says. */
public final class ReadmeTest {
    private static final Check C = new Check("ReadmeTest");
    private static final Pattern BLOCK = Pattern.compile("(?s)```java\n(.*?)```");
    private static final Pattern CALL = Pattern.compile("x\\.(\\w+)\\(([^)]*)\\); +// (-?\\d+)(:.*)?");

    private static Object number(String told, Class<?> type) {
        long value = Long.decode(told.replaceAll("L$", ""));
        if (type == int.class) {
            return Math.toIntExact(value);
        }
        return value;
    }

    private static int answer(LampWires x, String name, String told) throws ReflectiveOperationException {
        String[] numbers = told.isEmpty() ? new String[0] : told.split(", *");
        for (Method m : LampWires.class.getMethods()) {
            if (m.getName().equals(name) && m.getParameterCount() == numbers.length) {
                Object[] values = new Object[numbers.length];
                for (int i = 0; i < values.length; i++) {
                    values[i] = number(numbers[i], m.getParameterTypes()[i]);
                }
                return (int) m.invoke(x, values);
            }
        }
        throw new NoSuchMethodException(name + "(" + told + ")");
    }

    private static void run(String block) throws ReflectiveOperationException {
        LampWires x = new LampWires();
        for (String line : block.split("\n")) {
            Matcher call = CALL.matcher(line);
            if (call.matches()) {
                C.due(line, answer(x, call.group(1), call.group(2)), Integer.parseInt(call.group(3)));
            } else {
                C.holds("'" + line + "' is a call with its answer", line.startsWith("LampWires x = new LampWires();"));
            }
        }
    }

    public static void main(String[] args) throws IOException, ReflectiveOperationException {
        Matcher blocks = BLOCK.matcher(Files.readString(Path.of("README.md")));
        int found = 0;
        while (blocks.find()) {
            found++;
            run(blocks.group(1));
        }
        C.holds("the page shows calls", found > 0);
        C.finish();
    }
}
