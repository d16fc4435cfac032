import java.io.IOException;
import java.lang.reflect.Method;
import java.nio.file.Files;
import java.nio.file.Path;
import java.util.Set;
import java.util.TreeSet;
import java.util.regex.Matcher;
import java.util.regex.Pattern;

/** README.md's example: every call there answers the number that its comment begins with. */
public final class ReadmeTest {
    private static final Pattern EXAMPLE = Pattern.compile("(?s)```java\n(.*?)```");
    private static final Pattern FEED = Pattern.compile("^feed\\(ring, \"(.*)\"\\);");
    private static final Pattern CALL = Pattern.compile("^ring\\.(\\w+)\\(([^)]*)\\); +// (-?\\d+)\\b");

    private final MagnetRing ring = new MagnetRing();
    private final Set<String> called = new TreeSet<>();

    public static void main(String[] args) throws IOException, ReflectiveOperationException {
        new ReadmeTest().example(Files.readString(Path.of("README.md")));
        Check.finish();
    }

    private void example(String page) throws ReflectiveOperationException {
        Matcher block = EXAMPLE.matcher(page);
        Check.holds("README.md has an example", block.find());
        for (String line : block.group(1).split("\n")) {
            Matcher feed = FEED.matcher(line);
            Matcher call = CALL.matcher(line);
            if (feed.find()) {
                Check.feed(ring, feed.group(1));
                called.add("feed");
            } else if (call.find()) {
                Check.same(line, answer(call.group(1), call.group(2)), Integer.parseInt(call.group(3)));
                called.add(call.group(1));
            } else {
                Check.holds("no answer is told: " + line, !line.startsWith("ring."));
            }
        }
        Check.alike("calls of the example", called.toString(), publicNames().toString());
        for (String name : publicNames()) {
            Check.holds(name + " is in the list of calls", page.contains("| `" + name + "("));
        }
    }

    private int answer(String name, String list) throws ReflectiveOperationException {
        String[] words = list.isEmpty() ? new String[0] : list.split(", ");
        Class<?>[] types = new Class<?>[words.length];
        Object[] numbers = new Object[words.length];
        for (int i = 0; i < words.length; i++) {
            types[i] = int.class;
            numbers[i] = Integer.valueOf(words[i]);
        }
        return (Integer) MagnetRing.class.getMethod(name, types).invoke(ring, numbers);
    }

    private static Set<String> publicNames() {
        Set<String> names = new TreeSet<>();
        for (Method method : MagnetRing.class.getMethods()) {
            if (method.getDeclaringClass() == MagnetRing.class) {
                names.add(method.getName());
            }
        }
        return names;
    }
}
