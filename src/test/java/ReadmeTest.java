import java.io.IOException;
import java.lang.reflect.Field;
import java.lang.reflect.Method;
import java.lang.reflect.Modifier;
import java.nio.file.Files;
import java.nio.file.Path;
import java.util.ArrayList;
import java.util.Collections;
import java.util.List;
import java.util.regex.Matcher;
import java.util.regex.Pattern;
import java.util.stream.Stream;

/** README.md tells the public face and the tests as they are, and its example answers what it says. */
public final class ReadmeTest {
    private static final Due due = new Due();
    private static final Pattern CALL = Pattern.compile("x\\.(\\w+)\\(([-\\d, ]*)\\); +// (-?\\d+|true|false)\\b.*");

    public static void main(String[] args) throws IOException, ReflectiveOperationException {
        String readme = Files.readString(Path.of("README.md"));
        calls(readme);
        constants(readme);
        tests(readme);
        example(readme);
        due.end();
    }

    private static void calls(String readme) {
        for (Method method : WatchTree.class.getDeclaredMethods()) {
            if (Modifier.isPublic(method.getModifiers())) {
                String ints = String.join(", ", Collections.nCopies(method.getParameterCount(), "int \\w+"));
                String row = "(?m)^\\| `" + method.getReturnType() + " " + method.getName() + "\\(" + ints + "\\)` \\| \\w.* \\|$";
                due.is("README.md has a row for " + method.getName(), Pattern.compile(row).matcher(readme).find(), true);
            }
        }
    }

    private static void constants(String readme) throws IllegalAccessException {
        for (Field field : WatchTree.class.getFields()) {
            String row = "| `" + field.getName() + "` | " + field.get(null) + " | ";
            due.is("README.md has the row " + row, readme.contains(row), true);
        }
    }

    private static void tests(String readme) throws IOException {
        List<String> names = new ArrayList<>();
        try (Stream<Path> files = Files.list(Path.of("src/test/java"))) {
            files.forEach(file -> names.add(file.getFileName().toString()));
        }
        int tests = 0;
        for (String name : names) {
            if (name.endsWith("Test.java")) {
                tests++;
                String row = "| " + name.replace(".java", "") + " | ";
                due.is("README.md has the row " + row, readme.contains(row), true);
            }
        }
        Matcher rows = Pattern.compile("(?m)^\\| \\w+Test \\| ").matcher(readme);
        due.is("its rows of tests", rows.results().count(), tests);
    }

    /** Every line of the example is run, so none may be in another form. */
    private static void example(String readme) throws ReflectiveOperationException {
        Matcher block = Pattern.compile("(?s)```java\n(WatchTree x = new WatchTree\\(\\);\n)(.*?)```").matcher(readme);
        due.is("README.md has an example", block.find(), true);
        WatchTree x = new WatchTree();
        for (String line : block.group(2).split("\n")) {
            if (line.isEmpty()) {
                continue;
            }
            Matcher call = CALL.matcher(line);
            boolean isCall = call.matches();
            due.is("a call with its answer: " + line, isCall, true);
            if (isCall) {
                due.is(line, answer(x, call.group(1), call.group(2)).equals(call.group(3)), true);
            }
        }
    }

    private static String answer(WatchTree x, String name, String list) throws ReflectiveOperationException {
        String[] words = list.isEmpty() ? new String[0] : list.split(", ");
        Object[] arguments = new Object[words.length];
        Class<?>[] types = new Class<?>[words.length];
        for (int i = 0; i < words.length; i++) {
            arguments[i] = Integer.valueOf(words[i]);
            types[i] = int.class;
        }
        return String.valueOf(WatchTree.class.getMethod(name, types).invoke(x, arguments));
    }
}
