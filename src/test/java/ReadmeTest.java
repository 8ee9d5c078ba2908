import java.io.IOException;
import java.lang.reflect.Method;
import java.nio.file.Files;
import java.nio.file.Path;
import java.util.regex.Matcher;
import java.util.regex.Pattern;

/** README.md: each call that it shows answers what stands behind it, on one object, in their order. */
public final class ReadmeTest {
    private static final Pattern SHOWN = Pattern.compile(" {4}x\\.([a-z]+)\\(([^)]*)\\); +// (-?\\d+)(:.*)?");

    private ReadmeTest() {
    }

    public static void main(String[] args) throws IOException, ReflectiveOperationException {
        RoundPoint x = new RoundPoint();
        int shown = 0;
        int calls = 0;
        for (String line : Files.readAllLines(Path.of("README.md"))) {
            shown += line.startsWith("    x.") ? 1 : 0;
            Matcher m = SHOWN.matcher(line);
            if (m.matches()) {
                calls++;
                Due.is("README " + line.strip(), answer(x, m.group(1), m.group(2)), Long.parseLong(m.group(3)));
            }
        }
        Due.is("README: calls that are shown with their answers", calls, shown);
        Due.is("README: it shows calls", calls > 0 ? 1 : 0, 1);
        Due.end();
    }

    private static long answer(RoundPoint x, String name, String said) throws ReflectiveOperationException {
        String[] words = said.isEmpty() ? new String[0] : said.split(", ");
        Method call = named(name);
        Object[] values = new Object[words.length];
        for (int i = 0; i < words.length; i++) {
            boolean isLong = call.getParameterTypes()[i] == long.class;
            values[i] = isLong ? (Object) Long.decode(words[i]) : (Object) Integer.decode(words[i]);
        }
        return ((Number) call.invoke(x, values)).longValue();
    }

    private static Method named(String name) throws NoSuchMethodException {
        for (Method m : RoundPoint.class.getMethods()) {
            if (m.getName().equals(name)) {
                return m;
            }
        }
        throw new NoSuchMethodException(name);
    }
}
