import java.io.IOException;
import java.lang.reflect.Method;
import java.lang.reflect.Modifier;
import java.nio.file.Files;
import java.nio.file.Path;
import java.util.List;
import java.util.regex.Matcher;
import java.util.regex.Pattern;

/** README.md: its example answers what stands behind each call, and each call of the face has its row. */
public final class ReadmeTest {
    private static final Path README = Path.of("README.md");
    private static final Pattern EXAMPLE = Pattern.compile("x\\.(\\w+)\\(([^)]*)\\);\\s*// (-?\\d+|true|false):.*");
    private static final Pattern ROW = Pattern.compile("\\| `(\\w+ \\w+)\\(([^)]*)\\)` \\|.*");

    public static void main(String[] args) throws IOException, ReflectiveOperationException {
        Due due = new Due();
        List<String> lines = Files.readAllLines(README);
        example(due, lines);
        rows(due, lines);
        due.end();
    }

    private static void example(Due due, List<String> lines) throws ReflectiveOperationException {
        OverlayFabric x = new OverlayFabric();
        int run = 0;
        for (String line : lines) {
            Matcher found = EXAMPLE.matcher(line);
            if (!found.matches()) {
                due.no("a line of the example without an answer: " + line, line.startsWith("x."));
                continue;
            }
            Method call = callNamed(found.group(1));
            due.yes(found.group(1) + " is a call of the face", call != null);
            if (call != null) {
                due.eq(line, number(call.invoke(x, arguments(call, found.group(2))).toString()), number(found.group(3)));
                run++;
            }
        }
        due.yes("there is an example", run > 0);
    }

    private static void rows(Due due, List<String> lines) {
        for (Method call : OverlayFabric.class.getDeclaredMethods()) {
            if (Modifier.isPublic(call.getModifiers())) {
                long found = lines.stream().filter(line -> isRowOf(call, line)).count();
                due.eq("rows of " + call.getName(), found, 1);
            }
        }
    }

    private static boolean isRowOf(Method call, String line) {
        Matcher row = ROW.matcher(line);
        if (!row.matches() || !row.group(1).equals(call.getReturnType() + " " + call.getName())) {
            return false;
        }
        Class<?>[] types = call.getParameterTypes();
        String[] told = split(row.group(2));
        boolean same = told.length == types.length;
        for (int p = 0; same && p < types.length; p++) {
            same = told[p].startsWith(types[p] + " ");
        }
        return same;
    }

    private static Method callNamed(String name) {
        for (Method call : OverlayFabric.class.getDeclaredMethods()) {
            if (Modifier.isPublic(call.getModifiers()) && call.getName().equals(name)) {
                return call;
            }
        }
        return null;
    }

    private static Object[] arguments(Method call, String written) {
        String[] texts = split(written);
        Object[] values = new Object[texts.length];
        for (int p = 0; p < texts.length; p++) {
            long value = Long.parseLong(texts[p].replace("L", ""));
            boolean wide = call.getParameterTypes()[p] == long.class;
            values[p] = wide ? (Object) value : (Object) (int) value;
        }
        return values;
    }

    private static String[] split(String list) {
        return list.isEmpty() ? new String[0] : list.split(", ");
    }

    private static long number(String answer) {
        return answer.equals("true") ? 1 : answer.equals("false") ? 0 : Long.parseLong(answer);
    }
}
