import java.io.IOException;
import java.lang.reflect.Field;
import java.lang.reflect.Method;
import java.lang.reflect.Modifier;
import java.nio.file.Files;
import java.nio.file.Path;
import java.util.Set;
import java.util.TreeSet;
import java.util.regex.Pattern;

/** Those rules of LANGUAGE.md that can be seen from the file's words and the class's members. */
final class LanguageTest {
    private static final String[] NOT_ALLOWED = {
        "\\bthrow\\b", "\\bthrows\\b", "\\btry\\b", "\\bcatch\\b", "\\bsynchronized\\b",
        "\\bassert\\b", "\\bpackage\\b", "->", "::", "\\w+Exact\\b", "\\bvar\\b",
        "^import (?!java\\.util\\.Arrays;)", "\\bSystem\\.(?!arraycopy\\b)", "\\bvolatile\\b",
        "\\b(toString|hashCode|equals)\\b", "^\\s*static \\{",
    };

    public static void main(String[] args) throws IOException {
        Check check = new Check();
        String text = Files.readString(Path.of("src/main/java/WagonClearing.java"));
        String code = text.replaceAll("(?s)/\\*.*?\\*/", "").replaceAll("//[^\n]*", "");
        for (String word : NOT_ALLOWED) {
            boolean found = Pattern.compile(word, Pattern.MULTILINE).matcher(code).find();
            check.due("the file has " + word, found, false);
        }
        Class<?>[] inside = WagonClearing.class.getDeclaredClasses();
        check.due("more than twelve classes", inside.length > 11, false);
        Set<String> face = new TreeSet<>();
        for (Method method : WagonClearing.class.getDeclaredMethods()) {
            if (Modifier.isPublic(method.getModifiers())) {
                face.add(method.getName());
            }
        }
        look(check, WagonClearing.class, face);
        for (Class<?> one : inside) {
            check.due(one + " is static", Modifier.isStatic(one.getModifiers()), true);
            look(check, one, face);
        }
        check.end();
    }

    private static void look(Check check, Class<?> one, Set<String> face) {
        int fields = 0;
        for (Field field : one.getDeclaredFields()) {
            boolean isStatic = Modifier.isStatic(field.getModifiers());
            boolean isFinal = Modifier.isFinal(field.getModifiers());
            check.due(field + " is static and not final", isStatic && !isFinal, false);
            fields += isStatic ? 0 : 1;
        }
        check.due(one + " has more than twenty fields", fields > 20, false);
        for (Method method : one.getDeclaredMethods()) {
            check.due(method + " has more than seven parameters",
                    method.getParameterCount() > 7, false);
            check.due(method + " bears a public one's name",
                    !Modifier.isPublic(method.getModifiers()) && face.contains(method.getName()), false);
        }
    }
}
