import java.io.IOException;
import java.lang.reflect.Method;
import java.lang.reflect.Modifier;
import java.nio.file.Files;
import java.nio.file.Path;
import java.util.Set;
import java.util.TreeSet;
import java.util.regex.Matcher;
import java.util.regex.Pattern;

/** README.md, in the directory from which this is run: each call there answers what stands behind it, and none is left out. */
public final class ReadmeTest {
    private static final Pattern CALL = Pattern.compile("x\\.(\\w+)\\((.*)\\); +// (-?\\d+|true|false)?.*");

    public static void main(String[] args) throws IOException, ReflectiveOperationException {
        RealmTiles x = new RealmTiles();
        Set<String> shown = new TreeSet<>();
        for (String line : Files.readAllLines(Path.of("README.md"))) {
            Matcher call = CALL.matcher(line);
            if (call.matches()) {
                shown.add(call.group(1));
                String got = String.valueOf(answer(x, call.group(1), call.group(2)));
                String due = String.valueOf(call.group(3));
                Check.due("README.md: " + line + " (" + got + ")", got.equals(due), true);
            } else {
                Check.due("README.md: '" + line + "' is a call that can't be read", line.startsWith("x."), false);
            }
        }
        for (Method method : RealmTiles.class.getDeclaredMethods()) {
            if (Modifier.isPublic(method.getModifiers())) {
                Check.due("README.md shows " + method.getName(), shown.contains(method.getName()), true);
            }
        }
        Check.end();
    }

    /** Null for a call without an answer, as for a line that tells none. */
    private static Object answer(RealmTiles x, String name, String given) throws ReflectiveOperationException {
        String[] numbers = given.isEmpty() ? new String[0] : given.split(", ");
        for (Method method : RealmTiles.class.getMethods()) {
            if (method.getName().equals(name) && method.getParameterCount() == numbers.length) {
                return method.invoke(x, read(numbers, method.getParameterTypes()));
            }
        }
        return "no such call";
    }

    private static Object[] read(String[] numbers, Class<?>[] types) {
        Object[] values = new Object[numbers.length];
        for (int n = 0; n < numbers.length; n++) {
            if (types[n] == long.class) {
                values[n] = Long.decode(numbers[n].replace("L", ""));
            } else {
                values[n] = Integer.decode(numbers[n]);
            }
        }
        return values;
    }
}
