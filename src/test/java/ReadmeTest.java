import java.io.IOException;
import java.lang.reflect.InvocationTargetException;
import java.lang.reflect.Method;
import java.nio.file.Files;
import java.nio.file.Path;
import java.util.Set;
import java.util.TreeSet;
import java.util.regex.Matcher;
import java.util.regex.Pattern;

/** The calls that README.md shows, all on one object, have the answers that it shows. */
public final class ReadmeTest {
    private static final Pattern TOLD = Pattern.compile("tell\\(x, (\\d), \"([^\"]*)\"\\); +// (-?\\w+).*");
    private static final Pattern CALLED = Pattern.compile("x\\.(\\w+)\\(([^)]*)\\); +// (-?\\w+).*");

    private ReadmeTest() {
    }

    public static void main(String[] args) throws IOException, ReflectiveOperationException {
        Due due = new Due();
        TinStencils x = new TinStencils();
        Set<String> shown = new TreeSet<>();
        for (String line : Files.readAllLines(Path.of("README.md"))) {
            Matcher told = TOLD.matcher(line);
            Matcher called = CALLED.matcher(line);
            if (told.matches()) {
                due.is(line, Due.tell(x, Integer.parseInt(told.group(1)), told.group(2)), number(told.group(3)));
            } else if (called.matches()) {
                due.is(line, call(x, called.group(1), called.group(2)), number(called.group(3)));
                shown.add(called.group(1));
            } else {
                due.is("a call that isn't held: " + line, line.startsWith("x.") || line.startsWith("tell("), false);
            }
        }
        for (Method m : TinStencils.class.getDeclaredMethods()) {
            boolean inTell = m.getName().equals("feed") || m.getName().equals("plate");
            due.is("shown: " + m, inTell || !java.lang.reflect.Modifier.isPublic(m.getModifiers()) || shown.contains(m.getName()), true);
        }
        due.end();
    }

    private static long call(TinStencils x, String name, String told) throws IllegalAccessException, InvocationTargetException {
        String[] words = told.isEmpty() ? new String[0] : told.split(", ");
        for (Method m : TinStencils.class.getMethods()) {
            if (m.getName().equals(name) && m.getParameterCount() == words.length) {
                Object[] values = new Object[words.length];
                for (int k = 0; k < words.length; k++) {
                    boolean truth = m.getParameterTypes()[k] == boolean.class;
                    values[k] = truth ? (Object) Boolean.parseBoolean(words[k]) : (Object) Integer.parseInt(words[k]);
                }
                return number("" + m.invoke(x, values));
            }
        }
        throw new IllegalStateException("no such method: " + name);
    }

    private static long number(String answer) {
        return answer.equals("true") ? 1 : answer.equals("false") ? 0 : Long.parseLong(answer);
    }
}
