import java.io.IOException;
import java.lang.reflect.InvocationTargetException;
import java.lang.reflect.Method;
import java.nio.file.Files;
import java.nio.file.Path;
import java.util.HashSet;
import java.util.Set;
import java.util.regex.Matcher;
import java.util.regex.Pattern;

/** What README.md tells about the use of the class holds: its calls are made, its answers compared. */
public final class ReadmeTest {
    private static final Pattern MADE = Pattern.compile("StateShares x = new StateShares\\((-?\\d+)\\);.*");
    private static final Pattern TEXT = Pattern.compile("for \\(char c : \"(.*)\"\\.toCharArray\\(\\)\\) \\{");
    private static final Pattern CALL = Pattern.compile("x\\.(\\w+)\\(([^)]*)\\);\\s*(?://\\s*(-?\\d+|true|false)?.*)?");

    private static final Set<String> CALLED = new HashSet<>();
    private static StateShares x;
    private static String text;

    public static void main(String[] args) throws IOException, IllegalAccessException {
        boolean inside = false;
        for (String line : Files.readAllLines(Path.of("README.md"))) {
            if (line.startsWith("```")) {
                inside = line.equals("```java");
            } else if (inside) {
                follow(line.trim());
            }
        }
        for (Method m : StateShares.class.getDeclaredMethods()) {
            if (java.lang.reflect.Modifier.isPublic(m.getModifiers())) {
                Check.yes("README.md shows " + m.getName() + "()", CALLED.contains(m.getName()));
            }
        }
        Check.finish();
    }

    private static void follow(String line) throws IllegalAccessException {
        Matcher made = MADE.matcher(line);
        Matcher collected = TEXT.matcher(line);
        Matcher call = CALL.matcher(line);
        if (made.matches()) {
            x = new StateShares(Integer.parseInt(made.group(1)));
        } else if (collected.matches()) {
            text = collected.group(1);
        } else if (line.startsWith("x.unit(c);") && text != null) {
            CALLED.add("unit");
            Check.collect(x, text);
        } else if (call.matches()) {
            compare(line, answer(call.group(1), call.group(2).split(",\\s*")), call.group(3));
        } else {
            Check.yes("README.md, a line that can be followed: " + line, line.equals("}"));
        }
    }

    private static void compare(String line, Object got, String want) {
        // Where nothing is told, a call must at least have been taken.
        Check.yes("README.md: " + line + " answered " + got, String.valueOf(got).equals(want == null ? "true" : want));
    }

    private static Object answer(String name, String[] words) throws IllegalAccessException {
        CALLED.add(name);
        for (Method m : StateShares.class.getDeclaredMethods()) {
            if (m.getName().equals(name)) {
                Class<?>[] types = m.getParameterTypes();
                Object[] values = new Object[types.length];
                for (int i = 0; i < types.length; i++) {
                    values[i] = types[i] == int.class ? (Object) Integer.valueOf(words[i]) : (Object) Long.valueOf(words[i]);
                }
                try {
                    return m.invoke(x, values);
                } catch (InvocationTargetException e) {
                    return e.getCause();
                }
            }
        }
        return "nothing: there is no such call";
    }
}
