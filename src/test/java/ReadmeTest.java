import java.io.IOException;
import java.lang.reflect.InvocationTargetException;
import java.lang.reflect.Method;
import java.lang.reflect.Modifier;
import java.nio.file.Files;
import java.nio.file.Path;
import java.util.List;
import java.util.regex.Matcher;
import java.util.regex.Pattern;
import java.util.stream.Collectors;
import java.util.stream.Stream;

/** README.md says what is so: its example is made call by call, and every call and every test has its row. */
public final class ReadmeTest {
    private static final Pattern CALL = Pattern.compile("line\\.(\\w+)\\((.*)\\); *// (throws \\w+|-?\\d+): .*");

    public static void main(String[] args) throws IOException, ReflectiveOperationException {
        String page = Files.readString(Path.of("README.md"));
        example(page.lines().filter(row -> row.startsWith("line.")).collect(Collectors.toList()));
        for (Method method : Caretline.class.getDeclaredMethods()) {
            if (Modifier.isPublic(method.getModifiers())) {
                Check.isTrue("README.md names " + method.getName(), page.contains("`" + method.getName() + "`"));
            }
        }
        try (Stream<Path> files = Files.list(Path.of("src/test/java"))) {
            for (Path file : files.collect(Collectors.toList())) {
                String name = file.getFileName().toString().replace(".java", "");
                Check.isTrue("README.md has a row for " + name,
                    !name.endsWith("Test") || page.contains("\n| `" + name + "` |"));
            }
        }
        Check.finish();
    }

    private static void example(List<String> rows) throws ReflectiveOperationException {
        Caretline line = new Caretline();
        Check.isTrue("there is an example", !rows.isEmpty());
        for (String row : rows) {
            Matcher call = CALL.matcher(row);
            Check.isTrue("\"" + row + "\" is a call and its answer", call.matches());
            if (call.matches()) {
                String[] words = call.group(2).isEmpty() ? new String[0] : call.group(2).split(", ");
                Check.same(row, answer(line, call.group(1), words), call.group(3));
            }
        }
    }

    private static String answer(Caretline line, String name, String[] words) throws ReflectiveOperationException {
        Class<?>[] types = new Class<?>[words.length];
        Object[] values = new Object[words.length];
        for (int i = 0; i < words.length; i++) {
            boolean isNumber = !words[i].equals("true") && !words[i].equals("false");
            types[i] = isNumber ? int.class : boolean.class;
            values[i] = isNumber ? (Object) Integer.decode(words[i]) : (Object) Boolean.valueOf(words[i]);
        }
        try {
            return String.valueOf(Caretline.class.getMethod(name, types).invoke(line, values));
        } catch (InvocationTargetException e) {
            return "throws " + e.getCause().getClass().getSimpleName();
        }
    }
}
