import java.io.IOException;
import java.lang.reflect.Method;
import java.nio.file.Files;
import java.nio.file.Path;
import java.util.HashSet;
import java.util.Set;
import java.util.regex.Matcher;
import java.util.regex.Pattern;

/** The calls of README.md, made in their order on one object, answer what stands behind them; none is left out. */
public final class ReadmeTest {
    private static final Pattern CALL = Pattern.compile("x\\.(\\w+)\\(([^)]*)\\);\\s*// (true|false|-?\\d+).*");

    public static void main(String[] args) throws IOException, ReflectiveOperationException {
        String readme = Files.readString(Path.of("README.md"));
        int from = readme.indexOf("```java\n");
        int to = readme.indexOf("\n```\n", from);
        Due.isTrue("README.md has an example", from >= 0 && to > from);
        Set<String> shown = new HashSet<>();
        ShipVoices x = new ShipVoices();
        String[] lines = readme.substring(Math.max(0, from), Math.max(0, to)).split("\n");
        for (String line : lines) {
            if (line.startsWith("x.")) {
                shown.add(answer(x, line));
            }
        }
        for (Method m : ShipVoices.class.getDeclaredMethods()) {
            if ((m.getModifiers() & 1) == 1) {
                Due.isTrue("README.md shows " + m.getName(), shown.contains(m.getName()));
            }
        }
        Due.finish();
    }

    /** Makes the line's call, and tells its name. */
    private static String answer(ShipVoices x, String line) throws ReflectiveOperationException {
        Matcher m = CALL.matcher(line);
        if (!m.matches()) {
            Due.same("a call and its answer", line, "");
            return "";
        }
        String[] written = m.group(2).isEmpty() ? new String[0] : m.group(2).split(", ");
        Class<?>[] types = new Class<?>[written.length];
        Object[] numbers = new Object[written.length];
        for (int k = 0; k < written.length; k++) {
            types[k] = int.class;
            numbers[k] = Integer.valueOf(written[k]);
        }
        Object got = ShipVoices.class.getMethod(m.group(1), types).invoke(x, numbers);
        Due.same(line, String.valueOf(got), m.group(3));
        return m.group(1);
    }
}
