import java.io.IOException;
import java.lang.reflect.InvocationTargetException;
import java.lang.reflect.Method;
import java.nio.file.Files;
import java.nio.file.Path;
import java.util.regex.Matcher;
import java.util.regex.Pattern;

/** The example of README.md: each call answers, or throws, what stands behind it. */
public final class ReadmeTest {
    private static final Pattern CALL = Pattern.compile(
            "tracker\\.(\\w+)\\((.*)\\); +// (-?\\d+|\\w+Exception)(?::.*)?");

    public static void main(String[] args) throws IOException, ReflectiveOperationException {
        TurnTracker tracker = new TurnTracker();
        int calls = 0;
        for (String line : Files.readAllLines(Path.of("README.md"))) {
            if (line.startsWith("tracker.")) {
                Matcher call = CALL.matcher(line);
                Check.dueText("can be read: " + line, call.matches() + "", "true");
                Check.dueText(line, answer(tracker, call.group(1), call.group(2)), call.group(3));
                calls++;
            }
        }
        Check.due("calls in README.md", calls, 23);
        Check.finish();
    }

    private static String answer(TurnTracker tracker, String name, String arguments)
            throws ReflectiveOperationException {
        String[] words = arguments.isEmpty() ? new String[0] : arguments.split(", ");
        Object[] numbers = new Object[words.length];
        Class<?>[] types = new Class<?>[words.length];
        for (int i = 0; i < words.length; i++) {
            numbers[i] = number(words[i]);
            types[i] = int.class;
        }
        Method method = TurnTracker.class.getMethod(name, types);
        try {
            return method.invoke(tracker, numbers).toString();
        } catch (InvocationTargetException e) {
            return e.getCause().getClass().getSimpleName();
        }
    }

    private static int number(String word) {
        if (word.equals("TurnTracker.NONE")) {
            return TurnTracker.NONE;
        }
        return word.startsWith("'") ? word.charAt(1) : Integer.parseInt(word);
    }
}
