import java.io.IOException;
import java.lang.reflect.Method;
import java.nio.file.Files;
import java.nio.file.Path;
import java.util.regex.Matcher;
import java.util.regex.Pattern;

/** The calls that README.md shows, one behind the other on one object, answer as the comments behind them say. */
public final class ReadmeTest extends Due {
    private static final Pattern SHOWN = Pattern.compile("x\\.(\\w+)\\(([^)]*)\\); *// (-?\\d+|BesideQuotes\\.\\w+)(:.*)?");
    private static final String MADE = "BesideQuotes x = new BesideQuotes();";

    private static Method named(String name) {
        for (Method method : BesideQuotes.class.getDeclaredMethods()) {
            if (method.getName().equals(name)) {
                return method;
            }
        }
        throw new IllegalStateException("README.md shows a call that is not there: " + name);
    }

    private static Object taken(Class<?> type, String told) {
        if (type == boolean.class) {
            return Boolean.valueOf(told);
        }
        long number = Long.decode(told.endsWith("L") ? told.substring(0, told.length() - 1) : told);
        return type == long.class ? (Object) Long.valueOf(number) : (Object) Integer.valueOf((int) number);
    }

    private static int answerOf(BesideQuotes x, String name, String numbers) throws ReflectiveOperationException {
        Method method = named(name);
        Class<?>[] types = method.getParameterTypes();
        String[] told = numbers.isEmpty() ? new String[0] : numbers.split(", ");
        Object[] given = new Object[told.length];
        for (int k = 0; k < told.length; k++) {
            given[k] = taken(types[k], told[k]);
        }
        return (Integer) method.invoke(x, given);
    }

    private static int dueOf(String told) throws ReflectiveOperationException {
        boolean isNumber = !told.startsWith("BesideQuotes.");
        return isNumber ? Integer.parseInt(told) : BesideQuotes.class.getField(told.substring(13)).getInt(null);
    }

    public static void main(String[] args) throws IOException, ReflectiveOperationException {
        BesideQuotes x = null;
        boolean inside = false;
        int shown = 0;
        by(0, "README.md");
        for (String line : Files.readAllLines(Path.of("README.md"))) {
            if (line.startsWith("```")) {
                inside = line.equals("```java");
            } else if (inside && line.equals(MADE)) {
                x = new BesideQuotes();
            } else if (inside) {
                Matcher call = SHOWN.matcher(line);
                due("a call with its answer is shown: " + line, call.matches() ? 1 : 0, 1);
                if (call.matches()) {
                    shown++;
                    due(line, answerOf(x, call.group(1), call.group(2)), dueOf(call.group(3)));
                }
            }
        }
        due("calls are shown", shown > 0 ? 1 : 0, 1);
        end();
    }
}
