import java.io.IOException;
import java.lang.reflect.Constructor;
import java.lang.reflect.Field;
import java.lang.reflect.Method;
import java.lang.reflect.Modifier;
import java.nio.file.Files;
import java.nio.file.Path;
import java.util.ArrayList;
import java.util.List;
import java.util.TreeSet;
import java.util.regex.Matcher;
import java.util.regex.Pattern;

/** The rules of LANGUAGE.md that a look at the class and at its text can see. Run where src/ is. */
public final class LanguageTest {
    private static final String FACE = "set batch clear load add trouble sweep step leave row kind active pair swept "
        + "piece left kinds shared weight live crowd one steps split latest matched lane chain converse compose net "
        + "between sound lay image look";
    private static final String FORBIDDEN = "throw|throws|try|catch|finally|synchronized|assert|import|native|volatile|"
        + "System\\.(?!arraycopy)|Exact\\(|Object|hashCode|toString|double|float|new Thread|Random|->|::";

    private final Check check = new Check("LanguageTest");

    public static void main(String[] args) throws IOException {
        LanguageTest test = new LanguageTest();
        test.theFace();
        test.theFields();
        test.theText(Files.readString(Path.of("src/main/java/TimedJoin.java")));
        test.check.end();
    }

    private void theFace() {
        check.due("public and final", TimedJoin.class.getModifiers(), Modifier.PUBLIC | Modifier.FINAL);
        TreeSet<String> face = new TreeSet<>(List.of(FACE.split(" ")));
        check.due("methods of the document", face.size(), 37 - 1);
        TreeSet<String> found = new TreeSet<>();
        for (Class<?> c : classes()) {
            for (Method m : c.getDeclaredMethods()) {
                check.due("parameters of " + m, m.getParameterCount() <= 7, true);
                boolean open = c == TimedJoin.class && !Modifier.isPrivate(m.getModifiers());
                if (open) {
                    check.due(m + " is public", Modifier.isPublic(m.getModifiers()), true);
                    check.due(m + " is there once", found.add(m.getName()), true);
                } else {
                    check.due(m + " has a name of the face", face.contains(m.getName()), false);
                }
            }
        }
        check.due("the face: " + found, found.equals(face), true);
        for (Constructor<?> c : TimedJoin.class.getDeclaredConstructors()) {
            check.due("constructor", c.getParameterCount() == 0 && Modifier.isPublic(c.getModifiers()), true);
        }
    }

    private static List<Class<?>> classes() {
        List<Class<?>> all = new ArrayList<>(List.of(TimedJoin.class.getDeclaredClasses()));
        all.add(TimedJoin.class);
        return all;
    }

    private void theFields() {
        check.due("classes", classes().size() <= 12, true);
        for (Class<?> c : classes()) {
            check.due(c + " is static", c == TimedJoin.class || Modifier.isStatic(c.getModifiers()), true);
            int own = 0;
            for (Field f : c.getDeclaredFields()) {
                int is = f.getModifiers();
                own += Modifier.isStatic(is) ? 0 : 1;
                check.due(f + " static and not final", Modifier.isStatic(is) && !Modifier.isFinal(is), false);
                boolean face = f.getName().equals("NONE") && Modifier.isPublic(is);
                check.due(f + " is private", c != TimedJoin.class || face || Modifier.isPrivate(is), true);
            }
            check.due("fields of " + c, own <= 20, true);
        }
    }

    private void theText(String source) {
        for (int i = 0; i < source.length(); i++) {
            check.due("sign " + (int) source.charAt(i) + " at " + i, source.charAt(i) < 128, true);
        }
        String code = source.replaceAll("(?s)/\\*.*?\\*/", "").replaceAll("//[^\n]*", "");
        Matcher m = Pattern.compile("(?<![A-Za-z])(" + FORBIDDEN + ")(?![A-Za-z])").matcher(code);
        while (m.find()) {
            check.due("forbidden: " + m.group(), true, false);
        }
        methodsAreShort(source);
    }

    private void methodsAreShort(String source) {
        int from = 0;
        int line = 0;
        for (String text : source.split("\n")) {
            line++;
            if (text.matches(" {4,8}[a-zA-Z].*\\) \\{")) {
                from = line;
            }
            if (text.matches(" {4,8}}") && from > 0) {
                check.due("method of lines " + from + " to " + line, line - from <= 60, true);
                from = 0;
            }
        }
    }
}
