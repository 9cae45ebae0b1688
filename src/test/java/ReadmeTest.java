import java.lang.reflect.Method;
import java.lang.reflect.Modifier;
import java.nio.file.Files;
import java.nio.file.Path;
import java.util.Set;
import java.util.TreeSet;
import java.util.regex.Matcher;
import java.util.regex.Pattern;

/** The answers that README.md's example tells are those of the class, and no call of the face is missing there. */
public final class ReadmeTest {
    private static final Pattern CALL = Pattern.compile("row\\.(\\w+)\\(([^)]*)\\);\\s*// (-?\\d+).*");
    private static final Check CHECK = new Check();

    public static void main(String[] args) throws Exception {
        OnePlaceEach row = new OnePlaceEach();
        Set<String> shown = new TreeSet<>();
        for (String line : Files.readAllLines(Path.of("README.md"))) {
            Matcher call = CALL.matcher(line);
            if (call.matches()) {
                shown.add(call.group(1));
                CHECK.due("README.md: " + line, Long.parseLong(call.group(3)), answer(row, call));
            } else {
                CHECK.due("README.md tells an answer: " + line, 0, line.startsWith("row.") ? 1 : 0);
            }
        }
        for (Method method : OnePlaceEach.class.getDeclaredMethods()) {
            if (Modifier.isPublic(method.getModifiers())) {
                CHECK.due("README.md shows " + method.getName(), 1, shown.contains(method.getName()) ? 1 : 0);
            }
        }
        CHECK.end();
    }

    private static long answer(OnePlaceEach row, Matcher call) throws Exception {
        Method method = named(call.group(1));
        String[] words = call.group(2).split(", ");
        Object[] values = new Object[words.length];
        for (int i = 0; i < words.length; i++) {
            boolean isTruth = method.getParameterTypes()[i] == boolean.class;
            values[i] = isTruth ? (Object) Boolean.valueOf(words[i]) : (Object) Integer.valueOf(words[i]);
        }
        return ((Number) method.invoke(row, values)).longValue();
    }

    private static Method named(String name) {
        for (Method method : OnePlaceEach.class.getDeclaredMethods()) {
            if (Modifier.isPublic(method.getModifiers()) && method.getName().equals(name)) {
                return method;
            }
        }
        throw new IllegalArgumentException("README.md shows " + name + ", which the face has not");
    }
}
