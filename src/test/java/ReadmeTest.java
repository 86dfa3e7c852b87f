import java.io.IOException;
import java.lang.reflect.InvocationTargetException;
import java.lang.reflect.Method;
import java.nio.file.Files;
import java.nio.file.Path;
import java.util.regex.Matcher;
import java.util.regex.Pattern;

/** The lines of Java in README.md answer what stands behind them; it runs in the project's folder. */
public final class ReadmeTest extends Check {
    private static final Pattern BLOCK = Pattern.compile("```java\n(.*?)```", Pattern.DOTALL);
    private static final Pattern CALL = Pattern.compile("x\\.(\\w+)\\(([^)]*)\\); +// (-?\\w+)(: .*)?");
    private static final String MADE = "TypedTables x = new TypedTables();";

    private static TypedTables x = null;

    public static void main(String[] args) throws IOException, IllegalAccessException, InvocationTargetException {
        Matcher block = BLOCK.matcher(Files.readString(Path.of("README.md")));
        int lines = 0;
        while (block.find()) {
            for (String line : block.group(1).split("\n")) {
                take(line);
                lines++;
            }
        }
        due("README.md has lines of Java", lines > 0, true);
        due("few enough for one object", lines <= 512, true);
        finish();
    }

    private static void take(String line) throws IllegalAccessException, InvocationTargetException {
        Matcher call = CALL.matcher(line);
        if (line.equals(MADE)) {
            x = new TypedTables();
        } else if (call.matches()) {
            due(line, answer(call.group(1), call.group(2)), call.group(3));
        } else {
            due(line, "is no call with its answer", "one");
        }
    }

    private static String answer(String name, String arguments) throws IllegalAccessException, InvocationTargetException {
        String[] told = arguments.isEmpty() ? new String[0] : arguments.split(", ");
        for (Method m : TypedTables.class.getMethods()) {
            if (m.getName().equals(name) && m.getParameterCount() == told.length) {
                return "" + m.invoke(x, values(m.getParameterTypes(), told));
            }
        }
        return "no such call";
    }

    private static Object[] values(Class<?>[] kinds, String[] told) {
        Object[] values = new Object[told.length];
        for (int i = 0; i < told.length; i++) {
            if (kinds[i] == boolean.class) {
                values[i] = told[i].equals("true");
            } else {
                values[i] = Long.decode(told[i]).intValue();
            }
        }
        return values;
    }
}
