import java.io.IOException;
import java.lang.reflect.InvocationTargetException;
import java.lang.reflect.Method;
import java.lang.reflect.Modifier;
import java.nio.file.Files;
import java.nio.file.Path;
import java.util.ArrayList;
import java.util.Arrays;
import java.util.HashMap;
import java.util.List;
import java.util.Map;
import java.util.Set;
import java.util.TreeSet;
import java.util.regex.Matcher;
import java.util.regex.Pattern;

/**
 * The calls that README.md shows, with the answers that it says. They are read from the file
 * itself, so that neither can change without the other being looked at.
 */
public final class ReadmeTest {
    private static final Pattern MADE = Pattern.compile("SplitTree (\\w+) = new SplitTree\\(\\);");
    private static final Pattern CALL =
        Pattern.compile("(\\w+)\\.(\\w+)\\(([-0-9, ]*)\\);\\s*// (-?\\d+|[A-Z_]+)(: .*)?");
    private static final Map<String, Integer> CODES = Map.of("BAD_ARG", -1000, "FULL", -1001, "NONE", -1002);

    private static final Map<String, SplitTree> objects = new HashMap<>();
    private static final Set<String> shown = new TreeSet<>();
    private static int wrong = 0;

    private static void say(String what) {
        wrong++;
        System.out.println("README.md: " + what);
    }

    /** The lines of all java blocks, which are read as one program. */
    private static List<String> shownLines(Path readme) throws IOException {
        List<String> lines = new ArrayList<>();
        boolean inside = false;
        for (String line : Files.readAllLines(readme)) {
            if (line.startsWith("```")) {
                inside = line.equals("```java");
            } else if (inside && !line.isBlank()) {
                lines.add(line.strip());
            }
        }
        return lines;
    }

    private static Method methodOf(String name, int parameters) {
        for (Method m : SplitTree.class.getDeclaredMethods()) {
            boolean open = Modifier.isPublic(m.getModifiers());
            if (open && m.getName().equals(name) && m.getParameterCount() == parameters) {
                return m;
            }
        }
        return null;
    }

    private static Object[] numbersOf(String text) {
        return text.isBlank() ? new Object[0]
            : Arrays.stream(text.split(",")).map(word -> (Object) Integer.valueOf(word.strip())).toArray();
    }

    private static Integer answerOf(String word) {
        return Character.isUpperCase(word.charAt(0)) ? CODES.get(word) : Integer.valueOf(word);
    }

    private static void follow(String line) throws IllegalAccessException {
        Matcher made = MADE.matcher(line);
        Matcher call = CALL.matcher(line);
        if (made.matches()) {
            objects.put(made.group(1), new SplitTree());
        } else if (call.matches()) {
            ask(line, call);
        } else {
            say("no call with its answer: " + line);
        }
    }

    private static void ask(String line, Matcher call) throws IllegalAccessException {
        SplitTree object = objects.get(call.group(1));
        Object[] arguments = numbersOf(call.group(3));
        Method method = methodOf(call.group(2), arguments.length);
        Integer want = answerOf(call.group(4));
        if (object == null || method == null || want == null) {
            say("no such object, call or answer: " + line);
            return;
        }
        shown.add(method.getName());
        try {
            Object got = method.invoke(object, arguments);
            if (!want.equals(got)) {
                say("answered " + got + ": " + line);
            }
        } catch (InvocationTargetException thrown) {
            say("threw " + thrown.getCause() + ": " + line);
        }
    }

    /** Else a README that shows little or nothing would pass too. */
    private static void everyCallIsShown() {
        for (Method m : SplitTree.class.getDeclaredMethods()) {
            if (Modifier.isPublic(m.getModifiers()) && !shown.contains(m.getName())) {
                say("does not show " + m.getName());
            }
        }
    }

    public static void main(String[] args) throws IOException, IllegalAccessException {
        for (String line : shownLines(Path.of(System.getProperty("splittree.readme", "README.md")))) {
            follow(line);
        }
        everyCallIsShown();
        System.out.println(wrong == 0 ? "all answers are as shown" : wrong + " faults");
        if (wrong != 0) {
            System.exit(1);
        }
    }
}
