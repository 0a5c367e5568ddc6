import java.io.IOException;
import java.lang.reflect.Method;
import java.lang.reflect.Modifier;
import java.nio.file.Files;
import java.nio.file.Path;
import java.util.ArrayList;
import java.util.HashMap;
import java.util.HashSet;
import java.util.List;
import java.util.Map;
import java.util.Set;
import java.util.regex.Matcher;
import java.util.regex.Pattern;

/** What README.md shows of the class is what the class answers, and it shows every call. */
public final class ReadmeTest {
    private static final String MADE = "StruckJury x = new StruckJury();";
    private static final Pattern CALL = Pattern.compile("x\\.(\\w+)\\(([^)]*)\\); +// (-?[0-9]+)(: .*)?");
    private static final Pattern ROW = Pattern.compile("\\| `(\\w+)\\(([^)]*)\\)` \\| .* \\|([-0-9, ]*)\\|");
    private static final Pattern PROMISE = Pattern.compile("\n`\\w+ (\\w+)\\(([^)]*)\\)`: (.*)");
    private static final Pattern REFUSAL = Pattern.compile("-[1-6]\\b");

    private final Map<String, Method> face = new HashMap<>();
    private final Set<String> shown = new HashSet<>();
    private StruckJury x;

    private ReadmeTest() {
        for (Method m : StruckJury.class.getDeclaredMethods()) {
            if (Modifier.isPublic(m.getModifiers())) {
                face.put(m.getName(), m);
            }
        }
    }

    private static Object argument(Class<?> type, String told) {
        if (type == boolean.class) {
            return Boolean.valueOf(told);
        }
        long number = Long.decode(told.replace("L", ""));
        return type == int.class ? (Object) Math.toIntExact(number) : (Object) number;
    }

    private long answerOf(Method m, String told) throws ReflectiveOperationException {
        String[] parts = told.isEmpty() ? new String[0] : told.split(", ");
        Class<?>[] types = m.getParameterTypes();
        Due.due("arguments of " + m.getName(), parts.length, types.length);
        Object[] arguments = new Object[types.length];
        for (int i = 0; i < types.length; i++) {
            arguments[i] = argument(types[i], parts[i]);
        }
        return ((Number) m.invoke(x, arguments)).longValue();
    }

    /** A line of an example: a new object, or a call with its answer behind. */
    private void line(String line) throws ReflectiveOperationException {
        if (line.equals(MADE)) {
            x = new StruckJury();
            return;
        }
        Matcher call = CALL.matcher(line);
        boolean stands = call.matches() && face.containsKey(call.group(1)) && x != null;
        Due.due("whether this is a call with its answer: " + line, stands ? 1 : 0, 1);
        if (stands) {
            shown.add(call.group(1));
            Due.due(line, answerOf(face.get(call.group(1)), call.group(2)), Long.parseLong(call.group(3)));
        }
    }

    private void examples(String readme) throws ReflectiveOperationException {
        Due.by("README.md");
        boolean inside = false;
        for (String line : readme.split("\n")) {
            if (line.startsWith("```")) {
                inside = line.equals("```java");
            } else if (inside) {
                line(line);
            }
        }
        for (String name : face.keySet()) {
            Due.due("whether an example shows " + name, shown.contains(name) ? 1 : 0, 1);
        }
    }

    private static List<String> refusalsIn(String text) {
        List<String> found = new ArrayList<>();
        Matcher refusal = REFUSAL.matcher(text.replace("REFUSALS -1 .. -6", ""));
        while (refusal.find()) {
            found.add(refusal.group());
        }
        return found;
    }

    /** By the call with the names of its arguments: its refusals in their order, as the table has them. */
    private static Map<String, List<String>> table(String readme) {
        Map<String, List<String>> rows = new HashMap<>();
        Matcher row = ROW.matcher(readme);
        while (row.find()) {
            rows.put(row.group(1) + "(" + row.group(2) + ")", refusalsIn(row.group(3)));
        }
        return rows;
    }

    private void refusals(String readme, String doc) {
        Due.by("README.md, its table against DOC.md");
        Map<String, List<String>> rows = table(readme);
        List<String> due = new ArrayList<>();
        Matcher promise = PROMISE.matcher(doc);
        int promises = 0;
        while (promise.find()) {
            promises++;
            if (!promise.group(3).contains("efused likewise")) {
                due = refusalsIn(promise.group(3));
            }
            String call = promise.group(1) + "(" + promise.group(2).replaceAll("(int|long|boolean) ", "") + ")";
            List<String> told = rows.remove(call);
            Due.due(call + " is refused by " + told + ", in the document by " + due, due.equals(told) ? 1 : 0, 1);
        }
        Due.due("promises of calls", promises, face.size());
        Due.due("rows of the table that no promise has: " + rows.keySet(), rows.size(), 0);
    }

    public static void main(String[] args) throws IOException, ReflectiveOperationException {
        String readme = Files.readString(Path.of("README.md"));
        ReadmeTest test = new ReadmeTest();
        test.examples(readme);
        test.refusals(readme, Files.readString(Path.of("..", "shared", "DOC.md")));
        Due.end();
    }
}
