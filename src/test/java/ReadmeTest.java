import java.io.IOException;
import java.lang.reflect.Method;
import java.nio.file.Files;
import java.nio.file.Path;
import java.util.List;
import java.util.regex.Matcher;
import java.util.regex.Pattern;

/** Plays the example of README.md, line by line: each call answers what stands behind it there. */
public class ReadmeTest {
    private static final Pattern CALL = Pattern.compile("x\\.(\\w+)\\((.*?)\\); +// (-?\\w+).*");
    private static final Pattern READING = Pattern.compile("reads\\(x, text\\); +// (-?\\d+).*");

    public static void main(String[] args) throws IOException, ReflectiveOperationException {
        Due due = new Due();
        List<String> lines = Files.readAllLines(Path.of("README.md"));
        String text = programOf(lines);
        ClickOrders x = new ClickOrders();
        int played = 0;
        for (String line : lines) {
            Matcher call = CALL.matcher(line);
            Matcher reading = READING.matcher(line);
            if (reading.matches()) {
                due.is(line, Due.reads(x, text), Long.parseLong(reading.group(1)));
                played++;
            } else if (call.matches()) {
                due.is(line, String.valueOf(answer(x, call.group(1), call.group(2))).equals(call.group(3)), true);
                played++;
            } else {
                due.is("not played: " + line, line.startsWith("x.") || line.startsWith("reads("), false);
            }
        }
        due.is("lines of README.md that were played", played, 44);
        due.ends();
    }

    private static String programOf(List<String> lines) {
        int from = lines.indexOf("```text") + 1;
        int to = from;
        while (!lines.get(to).equals("```")) {
            to++;
        }
        return String.join(" ", lines.subList(from, to));
    }

    private static Object answer(ClickOrders x, String name, String list) throws ReflectiveOperationException {
        String[] parts = list.isEmpty() ? new String[0] : list.split(", ");
        for (Method method : ClickOrders.class.getMethods()) {
            if (method.getName().equals(name) && method.getParameterCount() == parts.length) {
                Object[] values = new Object[parts.length];
                for (int k = 0; k < parts.length; k++) {
                    values[k] = method.getParameterTypes()[k] == boolean.class
                        ? (Object) Boolean.valueOf(parts[k]) : (Object) Integer.valueOf(parts[k]);
                }
                return method.invoke(x, values);
            }
        }
        throw new NoSuchMethodException(name);
    }
}
