import java.io.IOException;
import java.lang.reflect.InvocationTargetException;
import java.lang.reflect.Method;
import java.nio.file.Files;
import java.nio.file.Path;
import java.util.ArrayList;
import java.util.List;
import java.util.regex.Matcher;
import java.util.regex.Pattern;

/** What README.md shows is so: its text is a bus, and its calls on it answer what stands behind them. */
public final class ReadmeTest {
    private static final Pattern CALL = Pattern.compile("x\\.(\\w+)\\(([^)]*)\\); +// (\\S+).*");
    private static final Check CHECK = new Check("ReadmeTest");

    /** The lines of the first block of a kind. */
    private static List<String> block(List<String> lines, String kind) {
        List<String> found = new ArrayList<>();
        for (int i = lines.indexOf("```" + kind) + 1; i > 0 && !lines.get(i).equals("```"); i++) {
            found.add(lines.get(i));
        }
        return found;
    }

    private static String answer(BusSeats x, String name, String arguments)
        throws IllegalAccessException, InvocationTargetException {
        String[] parts = arguments.isEmpty() ? new String[0] : arguments.split(", ");
        Object[] numbers = new Object[parts.length];
        for (int i = 0; i < parts.length; i++) {
            numbers[i] = Integer.valueOf(parts[i]);
        }
        for (Method m : BusSeats.class.getMethods()) {
            if (m.getDeclaringClass() == BusSeats.class && m.getName().equals(name)) {
                return String.valueOf(m.invoke(x, numbers));
            }
        }
        return "no such call";
    }

    private static void holdsInTable(List<String> lines) {
        String all = String.join("\n", lines);
        for (Method m : BusSeats.class.getMethods()) {
            if (m.getDeclaringClass() == BusSeats.class) {
                CHECK.is(m.getName() + " told of", all.contains("`" + m.getName() + "`") ? 1 : 0, 1);
            }
        }
    }

    public static void main(String[] args)
        throws IOException, IllegalAccessException, InvocationTargetException {
        List<String> lines = Files.readAllLines(Path.of("README.md"));
        BusSeats x = CHECK.told(String.join(" ", block(lines, "text")));
        List<String> calls = block(lines, "java");
        CHECK.is("calls shown", calls.size() > 20 ? 1 : 0, 1);
        for (String line : calls) {
            Matcher call = CALL.matcher(line);
            CHECK.is("a call and its answer in: " + line, call.matches() ? 1 : 0, 1);
            String got = call.matches() ? answer(x, call.group(1), call.group(2)) : "none";
            CHECK.is(line + " (it answered " + got + ")", call.matches() && got.equals(call.group(3)) ? 1 : 0, 1);
        }
        holdsInTable(lines);
        CHECK.end();
    }
}
