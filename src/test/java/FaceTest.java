import java.io.IOException;
import java.lang.reflect.Constructor;
import java.lang.reflect.Field;
import java.lang.reflect.Method;
import java.lang.reflect.Modifier;
import java.nio.file.Files;
import java.nio.file.Path;
import java.util.ArrayList;
import java.util.Arrays;
import java.util.HashSet;
import java.util.List;
import java.util.Map;
import java.util.Set;
import java.util.TreeMap;
import java.util.TreeSet;
import java.util.regex.Matcher;
import java.util.regex.Pattern;

/** The public face is the document's and no more, and the program keeps to LANGUAGE.md where that can be seen. */
public final class FaceTest {
    private static final Due due = new Due();
    private static final List<String> METHODS = List.of(
        "int open(int)", "int close(int)", "boolean touch(int)", "int pass(int)", "int create(int,int,int,int)",
        "int set(int,int,int,int)", "int remove(int,int,int)", "int part(int,int,int,int)", "int multi(int)",
        "int wrongPart()", "int watch(int,int,int)", "int event(int)", "int watches()", "long node(int,int)",
        "int child(int,int)", "int latest()", "int state()", "int left(int)", "int save(int)", "int logged()",
        "int crash()");
    private static final List<String> CONSTANTS = List.of(
        "int REFUSED", "int NO_PATH", "int NO_NODE", "int CHILDLESS", "int EXISTS", "int FULL", "int VERSION",
        "int CHILDREN", "int LOG_FULL", "long NOTHING");
    private static final List<String> FORBIDDEN_WORDS = List.of(
        "import", "package", "throw", "throws", "try", "catch", "finally", "synchronized", "assert", "instanceof",
        "null", "String", "Math", "Integer", "Long", "System", "Arrays", "Object", "float", "double", "interface",
        "enum", "record", "protected", "volatile", "native", "hashCode", "equals", "toString", "getClass");

    public static void main(String[] args) throws IOException {
        constants();
        members();
        source();
        due.end();
    }

    private static void constants() {
        int[] ints = {WatchTree.REFUSED, WatchTree.NO_PATH, WatchTree.NO_NODE, WatchTree.CHILDLESS,
            WatchTree.EXISTS, WatchTree.FULL, WatchTree.VERSION, WatchTree.CHILDREN, WatchTree.LOG_FULL};
        for (int i = 0; i < ints.length; i++) {
            due.is(0, CONSTANTS.get(i), ints[i], -1 - i);
        }
        due.is(0, "NOTHING", WatchTree.NOTHING, -4000000000L);
    }

    private static void same(String what, Set<String> got, List<String> want) {
        due.is(0, what + " " + got, got.equals(new TreeSet<>(want)), true);
    }

    private static void members() {
        Class<?> c = WatchTree.class;
        due.is(0, "rule 1: public final", c.getModifiers(), Modifier.PUBLIC | Modifier.FINAL);
        due.is(0, "rule 1: nested classes", c.getDeclaredClasses().length, 0);
        Constructor<?>[] constructors = c.getDeclaredConstructors();
        due.is(0, "rule 1: constructors", constructors.length, 1);
        due.is(0, "rule 1: its parameters", constructors[0].getParameterCount(), 0);
        due.is(0, "rule 1: it is public", constructors[0].getModifiers(), Modifier.PUBLIC);
        Set<String> shown = new TreeSet<>();
        Set<String> shownNames = new HashSet<>();
        for (Method method : c.getDeclaredMethods()) {
            if (!Modifier.isPrivate(method.getModifiers())) {
                String types = Arrays.toString(method.getParameterTypes()).replaceAll("[\\[\\] ]", "");
                shown.add(method.getReturnType() + " " + method.getName() + "(" + types + ")");
                shownNames.add(method.getName());
                due.is(0, "rule 1: modifiers of " + method.getName(), method.getModifiers(), Modifier.PUBLIC);
            }
        }
        same("rule 1: methods", shown, METHODS);
        for (Method method : c.getDeclaredMethods()) {
            if (Modifier.isPrivate(method.getModifiers())) {
                due.is(0, "rule 1: name of " + method, shownNames.contains(method.getName()), false);
            }
            due.is(0, "rule 10: parameters of " + method, method.getParameterCount() <= 7, true);
        }
        fields(c);
    }

    private static void fields(Class<?> c) {
        Set<String> shown = new TreeSet<>();
        int state = 0;
        for (Field field : c.getDeclaredFields()) {
            Class<?> type = field.getType();
            int modifiers = field.getModifiers();
            boolean fixed = Modifier.isStatic(modifiers) && Modifier.isFinal(modifiers);
            if (!Modifier.isPrivate(modifiers)) {
                shown.add(type + " " + field.getName());
                due.is(0, "rule 1: " + field, Modifier.isPublic(modifiers) && fixed, true);
            }
            if (Modifier.isStatic(modifiers)) {
                due.is(0, "rule 5: " + field, fixed && (type == int.class || type == long.class), true);
            } else {
                state++;
                Class<?> element = type.isArray() ? type.getComponentType() : type;
                due.is(0, "rule 2: " + field, element.isPrimitive() && element != float.class && element != double.class, true);
            }
        }
        same("rule 1: constants", shown, CONSTANTS);
        due.is(0, "rule 10: fields", state <= 40, true);
    }

    private static void source() throws IOException {
        String text = Files.readString(Path.of("src/main/java/WatchTree.java"));
        String code = text.replaceAll("(?s)/\\*.*?\\*/", "").replaceAll("//[^\n]*", "");
        for (String word : FORBIDDEN_WORDS) {
            due.is(0, "the word " + word, Pattern.compile("\\b" + word + "\\b").matcher(code).find(), false);
        }
        for (String mark : new String[] {"\"", "->", "::", "[]["}) {
            due.is(0, "the mark " + mark, code.contains(mark), false);
        }
        Matcher news = Pattern.compile("\\n(.*)\\bnew\\b(.*)").matcher(code);
        while (news.find()) {
            boolean inField = news.group(1).matches(" {4}private final int\\[\\] \\w+ = ");
            due.is(0, "rule 4: new" + news.group(2), inField && news.group(2).matches(" int\\[[A-Z_]+\\];"), true);
        }
        callsInArguments(code);
        lengths(code);
        callsAreNotDeep(code);
        loopsCount(code);
    }

    /** Which methods of the class each of its methods calls. */
    private static Map<String, Set<String>> calls(String code) {
        Map<String, Set<String>> calls = new TreeMap<>();
        Set<String> called = new TreeSet<>();
        Pattern call = Pattern.compile("\\b(\\w+)\\(");
        for (String line : code.split("\n")) {
            Matcher m = call.matcher(line);
            if (line.matches(" {4}(public|private) .*\\) \\{") && m.find()) {
                called = new TreeSet<>();
                calls.put(m.group(1), called);
            }
            while (m.find()) {
                called.add(m.group(1));
            }
        }
        calls.values().forEach(names -> names.retainAll(calls.keySet()));
        return calls;
    }

    private static void callsAreNotDeep(String code) {
        Map<String, Set<String>> calls = calls(code);
        due.is(0, "rule 10: methods found", calls.keySet().containsAll(List.of("open", "multi", "crash")), true);
        Set<String> level = new TreeSet<>(calls.keySet());
        for (int deep = 1; deep <= 6; deep++) {
            Set<String> next = new TreeSet<>();
            level.forEach(name -> next.addAll(calls.get(name)));
            level = next;
        }
        // A recursion would never come to an end here, so this tells of rule 8 as well.
        due.is(0, "rules 8, 10: called seven deep " + level, level.size(), 0);
    }

    private static void loopsCount(String code) {
        Matcher loops = Pattern.compile("\\b(for|while|do)\\b(.*)").matcher(code);
        while (loops.find()) {
            boolean counts = loops.group().matches("for \\(int (\\w+) = \\d+; .*\\b\\1 < [A-Z_]+\\b.*; \\1(\\+\\+| \\+= [A-Z_]+)\\) \\{");
            due.is(0, "rule 8: the end of the loop " + loops.group(), counts, true);
        }
    }

    private static void callsInArguments(String code) {
        String keywords = "(?!(?:if|for|while|switch|return)\\b)";
        Pattern nested = Pattern.compile("\\b" + keywords + "\\w+\\([^(){};]*\\b" + keywords + "\\w+\\(");
        List<String> found = new ArrayList<>();
        Matcher m = nested.matcher(code);
        while (m.find()) {
            found.add(m.group());
        }
        due.is(0, "rule 10: calls in arguments " + found, found.size(), 0);
    }

    private static void lengths(String code) {
        int length = 0;
        for (String line : code.split("\n")) {
            length = line.matches(" {4}\\S.*\\) \\{") ? 0 : length + 1;
            if (line.equals("    }")) {
                due.is(0, "rule 10: a method's lines " + length, length <= 60, true);
            }
        }
    }
}
