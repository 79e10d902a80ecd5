import java.io.IOException;
import java.lang.reflect.Method;
import java.lang.reflect.Modifier;
import java.nio.file.Files;
import java.nio.file.Path;
import java.util.HashMap;
import java.util.List;
import java.util.Map;
import java.util.TreeMap;
import java.util.regex.Matcher;
import java.util.regex.Pattern;

/** What README.md tells: the calls of its example answer what stands behind them, and its tables have every call. */
public final class ReadmeTest {
    private static final Pattern CALL = Pattern.compile("(?:int (\\w+) = )?x\\.(\\w+)\\(([^)]*)\\);\\s*// (-?\\d+): .*");
    private static final Pattern ROW = Pattern.compile("\\| `(\\w+)\\(([^)]*)\\)` \\|.*");

    private static final Map<String, Method> METHODS = new TreeMap<>();

    private static int wrong = 0;

    private static void wrong(String what) {
        wrong++;
        System.out.println("README.md: " + what);
    }

    private static String[] parted(String arguments) {
        return arguments.isEmpty() ? new String[0] : arguments.split(", ");
    }

    /** Makes the call of one line, and keeps its answer if the line names it. */
    private static void callLine(LiveRanges x, Map<String, Integer> named, String line)
            throws ReflectiveOperationException {
        Matcher call = CALL.matcher(line);
        if (!call.matches()) {
            wrong("no call with its answer: " + line);
            return;
        }
        String[] words = parted(call.group(3));
        Object[] values = new Object[words.length];
        for (int i = 0; i < words.length; i++) {
            values[i] = named.containsKey(words[i]) ? named.get(words[i]) : Integer.valueOf(words[i]);
        }
        int got = (Integer) METHODS.get(call.group(2)).invoke(x, values);
        if (got != Integer.parseInt(call.group(4))) {
            wrong("answered " + got + ": " + line);
        }
        if (call.group(1) != null) {
            named.put(call.group(1), got);
        }
    }

    private static void checkExample(List<String> lines) throws ReflectiveOperationException {
        int from = lines.indexOf("LiveRanges x = new LiveRanges();");
        if (from < 0) {
            wrong("there is no example");
            return;
        }
        LiveRanges x = new LiveRanges();
        Map<String, Integer> named = new HashMap<>();
        for (int at = from + 1; !lines.get(at).equals("```"); at++) {
            callLine(x, named, lines.get(at));
        }
    }

    private static void checkTables(List<String> lines) {
        Map<String, Integer> told = new TreeMap<>();
        for (String line : lines) {
            Matcher row = ROW.matcher(line);
            if (row.matches()) {
                told.put(row.group(1), parted(row.group(2)).length);
            }
        }
        Map<String, Integer> due = new TreeMap<>();
        for (Method method : METHODS.values()) {
            due.put(method.getName(), method.getParameterCount());
        }
        if (!told.equals(due)) {
            wrong("the tables have the calls " + told + ", due are " + due);
        }
    }

    public static void main(String[] args) throws IOException, ReflectiveOperationException {
        for (Method method : LiveRanges.class.getDeclaredMethods()) {
            if (Modifier.isPublic(method.getModifiers())) {
                METHODS.put(method.getName(), method);
            }
        }
        List<String> lines = Files.readAllLines(Path.of("README.md"));
        checkExample(lines);
        checkTables(lines);
        System.out.println(wrong == 0 ? "README.md is as due" : wrong + " things are not as due");
        if (wrong != 0) {
            System.exit(1);
        }
    }
}
