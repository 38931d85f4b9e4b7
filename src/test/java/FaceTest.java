import java.io.IOException;
import java.lang.reflect.Constructor;
import java.lang.reflect.Field;
import java.lang.reflect.Method;
import java.lang.reflect.Modifier;
import java.nio.file.Files;
import java.nio.file.Path;
import java.util.Set;
import java.util.TreeSet;
import java.util.regex.Matcher;
import java.util.regex.Pattern;

/** The public face as the document writes it, and what of LANGUAGE.md can be seen from outside. */
public final class FaceTest {
    private static final String[] FACE = {
        "int feed(int,int,int,int,int)", "int plate(int,int)", "int fault()", "int sheet(int,int)",
        "int square(int,int,int,int)", "int falls(int,int,int)", "int tongues(int,int)",
        "boolean change(int,int,int,boolean)", "int bridge(int,int,int)", "boolean put(int,int,boolean)",
        "int judge(int,int)", "int cheapest(int)", "int made(int)", "int choice(int,boolean,int)",
        "int sag(int,int,int,int,int)", "int corner(int)", "int first(int)", "int spoilt(int,int)",
        "boolean order(int)", "int paint(int,int)", "int left(int)", "int alike(int,int,int,int,int)",
        "int turn(int,int)", "long read(int,int,int)", "int hole(int,int,int)", "int cut(int,int)",
        "int image()", "boolean back(int)", "int count(int)"};

    public static void main(String[] args) throws IOException {
        Due due = new Due();
        checkFace(due);
        checkClasses(due, TinStencils.class, 0);
        checkSource(due);
        due.end();
    }

    private static void checkFace(Due due) {
        due.is("NONE", TinStencils.NONE, -1);
        due.is("public and final", TinStencils.class.getModifiers() & (Modifier.PUBLIC | Modifier.FINAL),
            Modifier.PUBLIC | Modifier.FINAL);
        Set<String> want = new TreeSet<>(Set.of(FACE));
        Set<String> got = new TreeSet<>();
        for (Method m : TinStencils.class.getDeclaredMethods()) {
            if (!Modifier.isPrivate(m.getModifiers()) && !m.isSynthetic()) {
                got.add(signature(m));
            }
        }
        due.is("methods " + got, got.equals(want), true);
        for (Method m : TinStencils.class.getDeclaredMethods()) {
            boolean open = !Modifier.isPrivate(m.getModifiers());
            due.is("a private method of a public name: " + m, open || m.isSynthetic() || !isFaceName(m.getName()), true);
        }
        for (Field f : TinStencils.class.getDeclaredFields()) {
            boolean isPrivate = Modifier.isPrivate(f.getModifiers());
            due.is("field " + f, isPrivate || f.getName().equals("NONE"), true);
        }
        Constructor<?>[] made = TinStencils.class.getConstructors();
        due.is("constructors", made.length, 1);
        due.is("constructor's parameters", made[0].getParameterCount(), 0);
    }

    private static String signature(Method m) {
        StringBuilder text = new StringBuilder(m.getReturnType() + " " + m.getName() + "(");
        for (int k = 0; k < m.getParameterCount(); k++) {
            text.append(k == 0 ? "" : ",").append(m.getParameterTypes()[k]);
        }
        return text.append(")").toString();
    }

    private static boolean isFaceName(String name) {
        for (String method : FACE) {
            if (method.contains(" " + name + "(")) {
                return true;
            }
        }
        return false;
    }

    private static void checkClasses(Due due, Class<?> whole, int depth) {
        Class<?>[] inside = whole.getDeclaredClasses();
        due.is("classes", inside.length + 1 <= 12, true);
        for (Class<?> c : inside) {
            due.is("static: " + c, Modifier.isStatic(c.getModifiers()), true);
            due.is("no deeper class in " + c, c.getDeclaredClasses().length, 0);
            int fields = 0;
            for (Field f : c.getDeclaredFields()) {
                fields += Modifier.isStatic(f.getModifiers()) ? 0 : 1;
            }
            due.is("fields of " + c, fields <= 20, true);
            for (Method m : c.getDeclaredMethods()) {
                due.is("parameters of " + m, m.getParameterCount() <= 7, true);
                due.is("name of " + m, isFaceName(m.getName()), false);
            }
        }
    }

    private static void checkSource(Due due) throws IOException {
        String source = Files.readString(Path.of("src/main/java/TinStencils.java"));
        String code = source.replaceAll("(?s)/\\*.*?\\*/", "").replaceAll("//[^\n]*", "");
        String[] words = {"throw", "throws", "try", "catch", "synchronized", "assert", "Random", "Thread", "System.nanoTime",
            "protected", "Exact", "double", "float", "->", "::"};
        for (String word : words) {
            Pattern p = Pattern.compile(Character.isLetter(word.charAt(0)) ? "\\b" + Pattern.quote(word) + "\\b" : Pattern.quote(word));
            Matcher m = p.matcher(code);
            due.is("the word " + word, m.find(), false);
        }
        for (String line : source.split("\n")) {
            due.is("imports: " + line, !line.startsWith("import") || line.equals("import java.util.Arrays;"), true);
        }
        due.is("no package", source.contains("\npackage ") || source.startsWith("package "), false);
        checkAscii(due, source);
    }

    private static void checkAscii(Due due, String source) {
        for (int k = 0; k < source.length(); k++) {
            if (source.charAt(k) > 126) {
                due.is("sign at " + k, source.charAt(k), 126);
            }
        }
    }
}
