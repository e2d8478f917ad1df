import java.io.IOException;
import java.lang.reflect.InvocationTargetException;
import java.lang.reflect.Method;
import java.lang.reflect.Modifier;
import java.nio.file.Files;
import java.nio.file.Path;
import java.util.List;
import java.util.Map;
import java.util.Set;
import java.util.TreeMap;
import java.util.TreeSet;
import java.util.regex.Matcher;
import java.util.regex.Pattern;

/** README.md is right as it stands: its run of calls answers so, and its table of exceptions is that of the face. */
public final class ReadmeTest {
    private static final Path README = Path.of("README.md");
    private static final Pattern CALL =
            Pattern.compile("shop\\.(\\w+)\\((.*)\\); +// (throws (\\w+)|[^:]+)(: .*)?");
    private static final Pattern ROW = Pattern.compile("\\| `(\\w+Exception)` \\| .* \\| ([^|]*) \\|");
    private static final Pattern NAMED = Pattern.compile("`(\\w+)`");

    public static void main(String[] args) throws IOException, IllegalAccessException {
        List<String> lines = Files.readAllLines(README);
        run(lines);
        Check.due("the exceptions of each call", tableOf(lines), faceOf());
        Check.end();
    }

    private static void run(List<String> lines) throws IllegalAccessException {
        int from = lines.indexOf("```java");
        Check.due("the first line of the run", lines.get(from + 1), "Eggboxery shop = new Eggboxery();");
        Eggboxery shop = new Eggboxery();
        int calls = 0;
        for (int at = from + 2; !lines.get(at).equals("```"); at++) {
            Matcher line = CALL.matcher(lines.get(at));
            Check.due("a call with its answer, or an empty line: " + lines.get(at),
                    line.matches() || lines.get(at).isEmpty(), true);
            if (line.matches()) {
                calls++;
                String due = line.group(4) != null ? "throws." + line.group(4) : line.group(3).trim();
                Check.due(lines.get(at), answerOf(shop, line.group(1), line.group(2)), due);
            }
        }
        Check.due("the run has calls", calls > 20, true);
    }

    private static String answerOf(Eggboxery shop, String name, String arguments) throws IllegalAccessException {
        try {
            return String.valueOf(methodOf(name).invoke(shop, valuesOf(arguments)));
        } catch (InvocationTargetException thrown) {
            return "throws." + thrown.getCause().getClass().getSimpleName();
        }
    }

    private static Method methodOf(String name) {
        for (Method method : Eggboxery.class.getMethods()) {
            if (method.getName().equals(name)) {
                return method;
            }
        }
        throw new IllegalArgumentException("no such call: " + name);
    }

    private static Object[] valuesOf(String arguments) {
        String[] texts = arguments.isEmpty() ? new String[0] : arguments.split(", ");
        Object[] values = new Object[texts.length];
        for (int at = 0; at < texts.length; at++) {
            String text = texts[at];
            boolean isTruth = text.equals("true") || text.equals("false");
            if (text.startsWith("'")) {
                values[at] = text.charAt(1);
            } else if (isTruth) {
                values[at] = text.equals("true");
            } else {
                values[at] = Integer.parseInt(text);
            }
        }
        return values;
    }

    private static Map<String, Set<String>> tableOf(List<String> lines) {
        Map<String, Set<String>> table = new TreeMap<>();
        for (String line : lines) {
            Matcher row = ROW.matcher(line);
            if (row.matches()) {
                Matcher named = NAMED.matcher(row.group(2));
                while (named.find()) {
                    boolean isNew = table.computeIfAbsent(named.group(1), name -> new TreeSet<>()).add(row.group(1));
                    Check.due("once in the table: " + named.group(1) + " " + row.group(1), isNew, true);
                }
            }
        }
        return table;
    }

    private static Map<String, Set<String>> faceOf() {
        Map<String, Set<String>> face = new TreeMap<>();
        for (Method method : Eggboxery.class.getDeclaredMethods()) {
            if (Modifier.isPublic(method.getModifiers())) {
                for (Class<?> exception : method.getExceptionTypes()) {
                    face.computeIfAbsent(method.getName(), name -> new TreeSet<>()).add(exception.getSimpleName());
                }
            }
        }
        return face;
    }
}
