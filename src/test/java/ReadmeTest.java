import java.io.IOException;
import java.lang.reflect.InvocationTargetException;
import java.lang.reflect.Method;
import java.nio.file.Files;
import java.nio.file.Path;
import java.util.regex.Matcher;
import java.util.regex.Pattern;

/** The run of calls in README.md: each must answer what stands behind it, on the program and on PlainNight. */
final class ReadmeTest {
    /** A call, and behind // its answer, which ends at a colon and a space or at the line's end. */
    private static final Pattern CALL = Pattern.compile("night\\.(\\w+)\\((.*?)\\); +// (.+?)(: .*)?");
    private static final int FEWEST_CALLS = 20;

    private static final Checks CHECKS = new Checks("ReadmeTest");

    public static void main(String[] args) throws IOException, IllegalAccessException {
        NightdeskRota night = new NightdeskRota();
        PlainNight plain = new PlainNight();
        int calls = 0;
        for (String line : Files.readAllLines(Path.of("README.md"))) {
            if (!line.startsWith("night.")) {
                continue;
            }
            Matcher call = CALL.matcher(line);
            CHECKS.same("README.md has a call and its answer in: " + line, call.matches(), true);
            if (call.matches()) {
                calls++;
                CHECKS.same(line, answer(night, call.group(1), numbers(call.group(2))), call.group(3));
                CHECKS.same("PlainNight: " + line, answer(plain, call.group(1), numbers(call.group(2))), call.group(3));
            }
        }
        CHECKS.same("README.md has calls enough", calls >= FEWEST_CALLS, true);
        CHECKS.ended();
    }

    private static Object[] numbers(String list) {
        if (list.isEmpty()) {
            return new Object[0];
        }
        String[] signs = list.split(", ");
        Object[] numbers = new Object[signs.length];
        for (int n = 0; n < signs.length; n++) {
            numbers[n] = Integer.valueOf(signs[n]);
        }
        return numbers;
    }

    private static String answer(Object night, String name, Object[] numbers) throws IllegalAccessException {
        for (Method method : night.getClass().getDeclaredMethods()) {
            if (method.getName().equals(name) && method.getParameterCount() == numbers.length) {
                try {
                    Object got = method.invoke(night, numbers);
                    return got instanceof String ? "\"" + got + "\"" : got.toString();
                } catch (InvocationTargetException e) {
                    return "throws " + e.getCause().getClass().getSimpleName();
                }
            }
        }
        return "no such call";
    }
}
