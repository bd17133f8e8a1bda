import java.io.IOException;
import java.lang.reflect.Method;
import java.lang.reflect.Modifier;
import java.nio.file.Files;
import java.nio.file.Path;
import java.util.Set;
import java.util.TreeSet;
import java.util.regex.Matcher;
import java.util.regex.Pattern;

/** Plays the calls that README.md shows, each with the answer behind it. It is run where README.md is. */
public final class ReadmeTest {
    private static final Path README = Path.of("README.md");
    private static final Pattern CALL = Pattern.compile("x\\.(\\w+)\\((.*)\\);\\s*// (-?\\d+).*");
    private static final String MADE = "FibreLoops x = new FibreLoops();";
    private static final Due due = new Due("ReadmeTest");

    private FibreLoops x;

    public static void main(String[] args) throws Exception {
        String text = Files.readString(README);
        new ReadmeTest().play(shownCalls(text));
        everyCallIsNamed(text);
        due.end();
    }

    private static String shownCalls(String text) throws IOException {
        Matcher fence = Pattern.compile("(?s)```java\n(.*?)```").matcher(text);
        if (!fence.find()) {
            throw new IOException(README + " shows no calls");
        }
        return fence.group(1);
    }

    private void play(String lines) throws Exception {
        int played = 0;
        for (String line : lines.split("\n")) {
            Matcher call = CALL.matcher(line);
            if (line.equals(MADE)) {
                x = new FibreLoops();
            } else if (call.matches()) {
                due.is(line, answer(call.group(1), call.group(2)), Long.parseLong(call.group(3)));
                played++;
            } else {
                due.holds("a line that is no call with its answer: " + line, line.isBlank());
            }
        }
        due.holds("calls were shown", played > 0);
    }

    private long answer(String name, String arguments) throws Exception {
        for (Method method : FibreLoops.class.getMethods()) {
            if (method.getName().equals(name)) {
                return (Integer) method.invoke(x, numbers(method, arguments));
            }
        }
        throw new NoSuchMethodException(name);
    }

    private static Object[] numbers(Method method, String arguments) throws Exception {
        String[] parts = arguments.isEmpty() ? new String[0] : arguments.split(", ");
        Object[] numbers = new Object[parts.length];
        for (int i = 0; i < parts.length; i++) {
            long number = number(parts[i]);
            numbers[i] = method.getParameterTypes()[i] == long.class ? (Object) number : (Object) Math.toIntExact(number);
        }
        return numbers;
    }

    private static long number(String text) throws Exception {
        if (text.startsWith("FibreLoops.")) {
            return FibreLoops.class.getField(text.substring("FibreLoops.".length())).getInt(null);
        }
        return Long.decode(text.replaceAll("L$", ""));
    }

    private static void everyCallIsNamed(String text) {
        Set<String> names = new TreeSet<>();
        for (Method method : FibreLoops.class.getDeclaredMethods()) {
            if (Modifier.isPublic(method.getModifiers())) {
                names.add(method.getName());
            }
        }
        for (String name : names) {
            due.holds("the table names " + name, text.contains("`" + name + "`"));
        }
    }
}
