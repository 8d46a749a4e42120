import java.io.IOException;
import java.lang.reflect.Method;
import java.nio.file.Files;
import java.nio.file.Path;
import java.util.Set;
import java.util.TreeSet;
import java.util.regex.Matcher;
import java.util.regex.Pattern;

/**
 * The calls that README.md shows, made one after the other, answer what stands beside them,
 * and each method and each constant is shown. It is run from the root of the checkout.
 */
public final class ReadmeTest {
    private static final Pattern CALL = Pattern.compile("q\\.(\\w+)\\(([-0-9, ]+)\\); +// ([-\\w]+)(: .+)?");
    private static final String NEW_OBJECT = "QuotientFilter q = new QuotientFilter();";
    private static final Set<String> DUE_TO_BE_SHOWN = Set.of("add", "remove", "maybe", "times", "count", "size",
        "print", "grow", "shrink", "pour", "clear", "printOf", "BAD", "FULL", "NONE");

    private static final Set<String> seen = new TreeSet<>();
    private static int wrong = 0;
    private static int calls = 0;

    private static void fail(String what) {
        wrong++;
        System.out.println("README.md: " + what);
    }

    private static String inCode(String readme) {
        int start = readme.indexOf("```java\n");
        int end = readme.indexOf("```\n", start + 1);
        return start < 0 || end < 0 ? "" : readme.substring(start + "```java\n".length(), end);
    }

    private static String answer(QuotientFilter q, String name, String arguments) throws ReflectiveOperationException {
        String[] numbers = arguments.split(", ");
        Class<?>[] types = new Class<?>[numbers.length];
        Object[] values = new Object[numbers.length];
        for (int i = 0; i < numbers.length; i++) {
            types[i] = int.class;
            values[i] = Integer.valueOf(numbers[i]);
        }
        Method method = QuotientFilter.class.getMethod(name, types);
        return method.invoke(q, values).toString();
    }

    private static String value(String shown) {
        switch (shown) {
            case "BAD": return "" + QuotientFilter.BAD;
            case "FULL": return "" + QuotientFilter.FULL;
            case "NONE": return "" + QuotientFilter.NONE;
            default: return shown;
        }
    }

    private static void check(QuotientFilter q, String line) throws ReflectiveOperationException {
        Matcher call = CALL.matcher(line);
        if (!call.matches()) {
            fail("not a call with its answer: " + line);
            return;
        }
        calls++;
        seen.add(call.group(1));
        seen.add(call.group(3));
        String got = answer(q, call.group(1), call.group(2));
        if (!got.equals(value(call.group(3)))) {
            fail("answered " + got + ": " + line);
        }
    }

    public static void main(String[] args) throws IOException, ReflectiveOperationException {
        String[] lines = inCode(Files.readString(Path.of("README.md"))).split("\n");
        if (!lines[0].equals(NEW_OBJECT)) {
            fail("the calls do not begin with a new object");
        }
        QuotientFilter q = new QuotientFilter();
        for (int i = 1; i < lines.length; i++) {
            if (!lines[i].isEmpty()) {
                check(q, lines[i]);
            }
        }
        Set<String> missing = new TreeSet<>(DUE_TO_BE_SHOWN);
        missing.removeAll(seen);
        if (!missing.isEmpty()) {
            fail("does not show " + missing);
        }
        System.out.println(calls + " calls shown, " + wrong + " faults");
        if (wrong != 0) {
            System.exit(1);
        }
    }
}
