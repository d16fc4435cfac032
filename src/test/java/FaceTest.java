import java.io.IOException;
import java.lang.reflect.Constructor;
import java.lang.reflect.Field;
import java.lang.reflect.Method;
import java.lang.reflect.Modifier;
import java.nio.file.Files;
import java.nio.file.Path;
import java.util.Arrays;
import java.util.Set;
import java.util.TreeSet;
import java.util.regex.Matcher;
import java.util.regex.Pattern;

/** The public face, and what a look at the source can tell of the rules of the language. */
public final class FaceTest {
    private static final String[] METHODS = {
        "int feed(int, long)", "int read()", "int place()", "int part(int, int)", "int kick(int, int, int)",
        "int table(int, int)", "int round(int)", "int widths(int)", "int turns()", "int way(int)",
        "int answer(int, int)", "int bump(int, int, int)", "int number(int, int)", "int grid(int)", "int rows(int)",
        "int after(int, int, int, int)", "int count(int)"};
    private static final String[] CONSTANTS = {"BAD -1", "NO -2", "FULL -3", "NONE -4", "BIG -5"};

    public static void main(String[] args) throws IOException, IllegalAccessException {
        Check.holds("public and final", Modifier.isPublic(MagnetRing.class.getModifiers())
                && Modifier.isFinal(MagnetRing.class.getModifiers()));
        methods();
        fields();
        constructors();
        classes();
        source(Files.readString(Path.of("src/main/java/MagnetRing.java")));
        Check.finish();
    }

    private static void methods() {
        Set<String> found = new TreeSet<>();
        for (Method m : MagnetRing.class.getDeclaredMethods()) {
            if (!Modifier.isPrivate(m.getModifiers())) {
                Check.holds(m + " is public", Modifier.isPublic(m.getModifiers()) && !Modifier.isStatic(m.getModifiers()));
                found.add(m.getReturnType() + " " + m.getName() + "(" + types(m.getParameterTypes()) + ")");
            }
        }
        Check.holds("methods " + found, found.equals(new TreeSet<>(Arrays.asList(METHODS))));
    }

    private static String types(Class<?>[] types) {
        StringBuilder all = new StringBuilder();
        for (Class<?> type : types) {
            all.append(all.length() == 0 ? "" : ", ").append(type.getSimpleName());
        }
        return all.toString();
    }

    private static void fields() throws IllegalAccessException {
        Set<String> found = new TreeSet<>();
        for (Field f : MagnetRing.class.getDeclaredFields()) {
            if (!Modifier.isPrivate(f.getModifiers())) {
                Check.holds(f + " is a constant", Modifier.isPublic(f.getModifiers())
                        && Modifier.isStatic(f.getModifiers()) && Modifier.isFinal(f.getModifiers()));
                found.add(f.getName() + " " + f.getInt(null));
            } else if (Modifier.isStatic(f.getModifiers())) {
                Check.holds(f + " is final", Modifier.isFinal(f.getModifiers()));
            }
        }
        Check.holds("constants " + found, found.equals(new TreeSet<>(Arrays.asList(CONSTANTS))));
    }

    private static void constructors() {
        Constructor<?>[] all = MagnetRing.class.getDeclaredConstructors();
        Check.same("constructors", all.length, 1);
        Check.holds("it is public and empty", Modifier.isPublic(all[0].getModifiers()) && all[0].getParameterCount() == 0);
    }

    private static void classes() {
        Class<?>[] inside = MagnetRing.class.getDeclaredClasses();
        Check.holds("some twelve classes", inside.length + 1 <= 12);
        for (Class<?> c : inside) {
            Check.holds(c + " is static and hidden", Modifier.isStatic(c.getModifiers())
                    && !Modifier.isPublic(c.getModifiers()) && !Modifier.isProtected(c.getModifiers()));
            Check.same(c + " has classes of its own", c.getDeclaredClasses().length, 0);
            int fields = 0;
            for (Field f : c.getDeclaredFields()) {
                fields += Modifier.isStatic(f.getModifiers()) ? 0 : 1;
            }
            Check.holds(c + " has some twenty fields", fields <= 20);
            for (Method m : c.getDeclaredMethods()) {
                for (String publicOne : METHODS) {
                    Check.holds(m + " bears a public name", !publicOne.contains(" " + m.getName() + "("));
                }
                Check.holds(m + " has seven parameters at most", m.getParameterCount() <= 7);
            }
        }
    }

    private static void source(String source) {
        String code = source.replaceAll("(?s)/\\*.*?\\*/", "").replaceAll("//[^\n]*", "").replaceAll("'.'", "' '");
        String[] words = {"throw", "throws", "try", "catch", "synchronized", "assert", "import", "package", "native"};
        for (String word : words) {
            Check.holds("no " + word, !Pattern.compile("\\b" + word + "\\b").matcher(code).find());
        }
        for (String part : new String[] {"->", "::", "static {", "Exact(", "System.", "Thread", "\"", "(true)", "(;;)"}) {
            Check.holds("no " + part, !code.contains(part));
        }
        Matcher method = Pattern.compile("(?m)^( +)[^\n=;]*\\) \\{$(?s:.*?)^\\1\\}$").matcher(code);
        while (method.find()) {
            Check.holds("some sixty lines: " + method.group().lines().findFirst().orElse(""),
                    method.group().lines().count() <= 60);
        }
    }
}
