import java.io.IOException;
import java.lang.reflect.Method;
import java.lang.reflect.Modifier;
import java.nio.file.Files;
import java.nio.file.Path;
import java.util.Arrays;
import java.util.List;
import java.util.Set;
import java.util.TreeSet;
import java.util.regex.Matcher;
import java.util.regex.Pattern;
import java.util.stream.Collectors;
import java.util.stream.Stream;

/** README.md: its lines answer what they say, and it names every call and every test. */
final class ReadmeTest {
    private static final Pattern LINE =
            Pattern.compile("house\\.(\\w+)\\(([-\\d, ]*)\\);\\s*// (-?\\d+|true|false)(:.*)?");

    private final Check check = new Check();
    private final WagonClearing house = new WagonClearing();
    private final Set<String> shown = new TreeSet<>();

    public static void main(String[] args) throws Exception {
        new ReadmeTest().all(Files.readString(Path.of("README.md")));
    }

    private void all(String text) throws Exception {
        for (String line : text.split("\n")) {
            if (line.startsWith("house.")) {
                look(line);
            }
        }
        check.due("calls that no line shows: " + missing(), missing().size(), 0);
        for (String test : tests()) {
            check.due(test + " is named", text.contains("`" + test + "`"), true);
        }
        check.end();
    }

    private void look(String line) throws Exception {
        Matcher found = LINE.matcher(line);
        boolean tells = found.matches();
        check.due(line + " tells its answer", tells, true);
        if (tells) {
            shown.add(found.group(1));
            String got = String.valueOf(call(found.group(1), found.group(2)));
            check.due(line + " (answered " + got + ")", got.equals(found.group(3)), true);
        }
    }

    private Object call(String name, String args) throws Exception {
        Object[] values = Stream.of(args.split(", ")).filter(arg -> !arg.isEmpty())
                .map(Integer::valueOf).toArray();
        Class<?>[] types = new Class<?>[values.length];
        Arrays.fill(types, int.class);
        return WagonClearing.class.getMethod(name, types).invoke(house, values);
    }

    private Set<String> missing() {
        Set<String> calls = new TreeSet<>();
        for (Method method : WagonClearing.class.getDeclaredMethods()) {
            if (Modifier.isPublic(method.getModifiers()) && !shown.contains(method.getName())) {
                calls.add(method.getName());
            }
        }
        return calls;
    }

    private static List<String> tests() throws IOException {
        try (Stream<Path> files = Files.list(Path.of("src/test/java"))) {
            return files.map(file -> file.getFileName().toString().replace(".java", ""))
                    .filter(name -> name.endsWith("Test")).collect(Collectors.toList());
        }
    }
}
