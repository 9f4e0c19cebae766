import java.io.IOException;
import java.lang.reflect.Method;
import java.nio.file.Files;
import java.nio.file.Path;
import java.util.Arrays;
import java.util.regex.Matcher;
import java.util.regex.Pattern;

/** README.md's example: every call in it answers what stands behind it, and every text it shows is the one it feeds. */
public final class ReadmeTest {
    private static final Pattern CALL = Pattern.compile("(?m)^x\\.(\\w+)\\(([^)]*)\\);\\s*// (-?\\d+)(?:: \"([^\"]*)\")?");
    private static final Pattern SHOWN = Pattern.compile("(?s)```text\n(.*?)```");

    private ReadmeTest() {
    }

    public static void main(String[] args) throws IOException, ReflectiveOperationException {
        String readme = Files.readString(Path.of("README.md"));
        WaverTax x = new WaverTax();
        StringBuilder fed = new StringBuilder();
        Matcher call = CALL.matcher(readme);
        int calls = 0;
        while (call.find()) {
            calls++;
            Object[] numbers = numbers(call.group(2));
            Check.due(call.group(), answer(x, call.group(1), numbers), Long.parseLong(call.group(3)));
            if (call.group(1).equals("feed")) {
                String shown = text(numbers).stripTrailing();
                Check.due(call.group() + " shows " + shown, shown.equals(call.group(4)), true);
                fed.append(text(numbers));
            }
        }
        Check.due("calls in README.md", calls, readme.split("\nx\\.").length - 1);
        Check.due("there are some", calls > 10, true);
        Matcher shown = SHOWN.matcher(readme);
        Check.due("README.md shows the text that it feeds",
            shown.find() && shown.group(1).replace("\n", "").equals(fed.toString().stripTrailing()), true);
        Check.end();
    }

    private static Object[] numbers(String told) {
        if (told.isEmpty()) {
            return new Object[0];
        }
        return Arrays.stream(told.split(", ")).map(Integer::decode).toArray();
    }

    private static String text(Object[] numbers) {
        StringBuilder text = new StringBuilder();
        for (Object number : numbers) {
            for (int shift = 24; shift >= 0; shift -= 8) {
                text.append((char) ((Integer) number >> shift & 255));
            }
        }
        return text.toString();
    }

    private static long answer(WaverTax x, String name, Object[] numbers) throws ReflectiveOperationException {
        for (Method method : WaverTax.class.getMethods()) {
            if (method.getName().equals(name) && method.getParameterCount() == numbers.length) {
                return ((Number) method.invoke(x, numbers)).longValue();
            }
        }
        throw new NoSuchMethodException(name);
    }
}
