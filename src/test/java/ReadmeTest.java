import java.lang.reflect.Method;
import java.lang.reflect.Modifier;
import java.nio.file.Files;
import java.nio.file.Path;
import java.util.List;
import java.util.Map;
import java.util.TreeMap;
import java.util.TreeSet;
import java.util.regex.Matcher;
import java.util.regex.Pattern;

/** Makes the calls that README.md shows, in their order, and compares each answer with the one that stands behind it. */
public final class ReadmeTest {
    private static final Pattern CALL = Pattern.compile("x\\.([a-z]+)\\(([^()]*)\\); +// (-?[0-9]+)(?:: (.*))?");
    private static final String NEW_OBJECT = "FloodTax x = new FloodTax();";
    private static final int MOST_CALLS = 512;

    private final Map<String, Method> face = new TreeMap<>();
    private final TreeSet<String> notShown = new TreeSet<>();
    private FloodTax x = null;
    private int calls = 0;

    public static void main(String[] args) throws Exception {
        new ReadmeTest().play(Files.readAllLines(Path.of(System.getProperty("floodtax.readme", "README.md"))));
        Check.finish();
    }

    private ReadmeTest() {
        for (Method m : FloodTax.class.getDeclaredMethods()) {
            if (Modifier.isPublic(m.getModifiers())) {
                face.put(m.getName(), m);
                notShown.add(m.getName());
            }
        }
    }

    private void play(List<String> lines) throws Exception {
        boolean inBlock = false;
        for (int i = 0; i < lines.size(); i++) {
            String line = lines.get(i).strip();
            if (line.startsWith("```")) {
                inBlock = line.equals("```java");
            } else if (inBlock && !line.isEmpty()) {
                show("README.md, line " + (i + 1) + ": " + line, line);
            }
        }
        Check.holds("README.md shows every call, but not " + notShown, notShown.isEmpty());
    }

    private void show(String where, String line) throws Exception {
        if (line.equals(NEW_OBJECT)) {
            x = new FloodTax();
            calls = 0;
            return;
        }
        Matcher m = CALL.matcher(line);
        boolean right = m.matches() && x != null && face.containsKey(m.group(1));
        Check.holds(where + ": is a call of the face with its answer", right);
        if (right) {
            call(where, m.group(1), numbers(m.group(2)), Long.parseLong(m.group(3)));
            if (m.group(1).equals("feed")) {
                Check.holds(where + ": the words are what is fed", fed(numbers(m.group(2))).equals(m.group(4)));
            }
        }
    }

    private void call(String where, String name, Object[] arguments, long want) throws Exception {
        calls++;
        Check.holds(where + ": within the calls of an object", calls <= MOST_CALLS);
        notShown.remove(name);
        Check.due(where + ":", ((Number) face.get(name).invoke(x, arguments)).longValue(), want);
    }

    private static Object[] numbers(String text) {
        if (text.isEmpty()) {
            return new Object[0];
        }
        String[] parts = text.split(", ");
        Object[] numbers = new Object[parts.length];
        for (int i = 0; i < parts.length; i++) {
            numbers[i] = Integer.decode(parts[i]);
        }
        return numbers;
    }

    private static String fed(Object[] numbers) {
        StringBuilder text = new StringBuilder("\"");
        for (Object number : numbers) {
            for (int shift = 24; shift >= 0; shift -= 8) {
                text.append((char) ((Integer) number >> shift & 255));
            }
        }
        return text.append('"').toString();
    }
}
