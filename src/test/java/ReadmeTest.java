import java.io.IOException;
import java.lang.reflect.Method;
import java.nio.file.Files;
import java.nio.file.Path;
import java.util.regex.Matcher;
import java.util.regex.Pattern;

/** The example in README.md: each of its calls answers what is written behind it. */
public final class ReadmeTest extends Checks {
    private static final Pattern CALL = Pattern.compile("x\\.(\\w+)\\((.*)\\); // (-?\\w+).*");

    private static Object answer(RingCutters x, String name, String arguments) throws ReflectiveOperationException {
        String[] told = arguments.isEmpty() ? new String[0] : arguments.split(", ");
        Class<?>[] kinds = new Class<?>[told.length];
        Object[] values = new Object[told.length];
        for (int i = 0; i < told.length; i++) {
            kinds[i] = int.class;
            values[i] = Integer.decode(told[i]);
        }
        Method method = RingCutters.class.getMethod(name, kinds);
        return method.invoke(x, values);
    }

    public static void main(String[] args) throws IOException, ReflectiveOperationException {
        promise("README.md");
        RingCutters x = new RingCutters();
        int calls = 0;
        for (String row : Files.readAllLines(Path.of("README.md"))) {
            Matcher call = CALL.matcher(row);
            if (call.matches()) {
                String got = String.valueOf(answer(x, call.group(1), call.group(2)));
                yes(row + " answered " + got, got.equals(call.group(3)));
                calls++;
            }
        }
        due("calls of the example", calls, 16);
        finish();
    }
}
