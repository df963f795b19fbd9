import java.lang.reflect.Method;
import java.nio.file.Files;
import java.nio.file.Path;
import java.util.regex.Matcher;
import java.util.regex.Pattern;

/** README.md's examples: each call answers what stands behind it there. */
public final class ReadmeTest {
    private static final Pattern CALL = Pattern.compile("x\\.(\\w+)\\(([^)]*)\\); +// (-?\\d+|[A-Z]+)(:.*)?");
    /** Fewer would mean that the page, or how it is read, has lost its examples. */
    private static final int CALLS_LEAST = 60;

    private static int wrong = 0;
    private static int calls = 0;

    private static int numberOf(String text) throws ReflectiveOperationException {
        return text.matches("[A-Z]+") ? TickBound.class.getField(text).getInt(null) : Integer.decode(text);
    }

    private static void example(TickBound x, String line) throws ReflectiveOperationException {
        Matcher call = CALL.matcher(line);
        if (!call.matches() || x == null) {
            wrong++;
            System.out.println("README.md has a line that is no call with its answer: " + line);
            return;
        }
        String[] texts = call.group(2).isEmpty() ? new String[0] : call.group(2).split(", ");
        Object[] numbers = new Object[texts.length];
        Class<?>[] types = new Class<?>[texts.length];
        for (int i = 0; i < texts.length; i++) {
            numbers[i] = numberOf(texts[i]);
            types[i] = int.class;
        }
        Method m = TickBound.class.getMethod(call.group(1), types);
        int got = (Integer) m.invoke(x, numbers);
        calls++;
        if (got != numberOf(call.group(3))) {
            wrong++;
            System.out.println("README.md: " + line + " answered " + got);
        }
    }

    public static void main(String[] args) throws Exception {
        Path source = Path.of(args.length > 0 ? args[0] : "src/main/java/TickBound.java").toAbsolutePath();
        Path page = source.resolve("../../../../README.md").normalize();
        boolean inside = false;
        TickBound x = null;
        for (String line : Files.readAllLines(page)) {
            if (line.startsWith("```")) {
                inside = line.equals("```java");
                x = null;
            } else if (inside && line.equals("TickBound x = new TickBound();")) {
                x = new TickBound();
            } else if (inside) {
                example(x, line);
            }
        }
        if (calls < CALLS_LEAST) {
            wrong++;
            System.out.println("README.md has no more than " + calls + " examples");
        }
        System.out.println(calls + " examples, " + wrong + " are not as README.md tells");
        if (wrong != 0) {
            System.exit(1);
        }
    }
}
