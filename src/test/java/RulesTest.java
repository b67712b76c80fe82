import java.io.IOException;
import java.lang.reflect.Constructor;
import java.lang.reflect.Field;
import java.lang.reflect.Method;
import java.lang.reflect.Modifier;
import java.nio.file.Files;
import java.nio.file.Path;
import java.util.ArrayDeque;
import java.util.Arrays;
import java.util.Deque;
import java.util.HashSet;
import java.util.List;
import java.util.Map;
import java.util.Set;
import java.util.TreeMap;
import java.util.TreeSet;
import java.util.regex.Matcher;
import java.util.regex.Pattern;

/** The public face of the document, and the rules of LANGUAGE.md that can be seen from outside or from the text. */
public final class RulesTest {
    private static final Set<String> FACE = Set.of("point(1)", "drop(0)", "set(3)", "move(2)", "smooth(0)",
        "points(0)", "distance(2)", "index(1)", "edges(0)", "edge(1)", "treeDistance(2)", "together(2)",
        "agrees(1)", "agreeing(0)", "treelike(0)", "span(0)", "weight(0)");
    private static final Set<String> CONSTANTS = Set.of("BAD_ARG", "FULL", "NONE");
    private static final Set<String> PLAIN_TYPES = Set.of("int", "long", "short", "byte", "char", "boolean", "void",
        "int[]", "long[]", "short[]", "byte[]", "char[]", "boolean[]");
    private static final Set<String> RULED_OUT = Set.of("float", "double", "String", "Math", "Integer", "System",
        "Arrays", "Object", "import", "package", "null", "throw", "throws", "try", "catch", "finally",
        "synchronized", "assert", "instanceof", "interface", "enum", "record", "extends", "implements",
        "protected", "var", "getClass", "hashCode", "equals", "toString", "->", "::");
    private static final Set<String> NO_CALLS = Set.of("if", "for", "while", "switch", "return");

    private static int wrong = 0;

    private static void hold(boolean holds, String what) {
        if (!holds) {
            wrong++;
            System.out.println(what);
        }
    }

    private static void theFace() {
        int kind = SplitTree.class.getModifiers();
        hold(Modifier.isPublic(kind) && Modifier.isFinal(kind), "rule 1: the class is not public and final");
        hold(SplitTree.class.getDeclaredClasses().length == 0, "rule 1: there is a nested class");
        Constructor<?>[] makers = SplitTree.class.getDeclaredConstructors();
        hold(makers.length == 1 && makers[0].getParameterCount() == 0 && Modifier.isPublic(makers[0].getModifiers()),
            "rule 1: the constructor is not the one of the document");
        Set<String> open = new TreeSet<>();
        Set<String> openNames = new HashSet<>();
        for (Method m : SplitTree.class.getDeclaredMethods()) {
            if (Modifier.isPublic(m.getModifiers())) {
                open.add(m.getName() + "(" + m.getParameterCount() + ")");
                openNames.add(m.getName());
                boolean ints = m.getReturnType() == int.class && !Modifier.isStatic(m.getModifiers())
                    && Arrays.stream(m.getParameterTypes()).allMatch(t -> t == int.class);
                hold(ints, "rule 1: not over int alone, or static: " + m);
            }
        }
        hold(open.equals(new TreeSet<>(FACE)), "rule 1: the public methods are " + open);
        for (Method m : SplitTree.class.getDeclaredMethods()) {
            if (!Modifier.isPublic(m.getModifiers())) {
                privateMethod(m, openNames);
            }
        }
    }

    private static void privateMethod(Method m, Set<String> openNames) {
        hold(Modifier.isPrivate(m.getModifiers()), "rule 1: neither public nor private: " + m);
        hold(!openNames.contains(m.getName()), "rule 1: bears the name of a public one: " + m);
        hold(m.getParameterCount() <= 7, "rule 10: more than seven parameters: " + m);
        hold(PLAIN_TYPES.contains(m.getReturnType().getSimpleName()) && !m.getReturnType().isArray(),
            "rules 2 and 4: answers no number: " + m);
        for (Class<?> type : m.getParameterTypes()) {
            hold(PLAIN_TYPES.contains(type.getSimpleName()), "rule 2: a parameter's type: " + m);
        }
    }

    private static void theFields() {
        Set<String> open = new HashSet<>();
        int held = 0;
        for (Field f : SplitTree.class.getDeclaredFields()) {
            int kind = f.getModifiers();
            hold(PLAIN_TYPES.contains(f.getType().getSimpleName()), "rule 2: a field's type: " + f);
            if (Modifier.isStatic(kind)) {
                hold(Modifier.isFinal(kind) && (f.getType() == int.class || f.getType() == long.class),
                    "rule 5: no constant of int or long: " + f);
            } else {
                held++;
                hold(!f.getType().isArray() || Modifier.isFinal(kind), "rule 4: an array that could be assigned: " + f);
            }
            if (Modifier.isPublic(kind)) {
                open.add(f.getName());
            } else {
                hold(Modifier.isPrivate(kind), "rule 1: neither public nor private: " + f);
            }
        }
        hold(open.equals(CONSTANTS), "rule 1: the public fields are " + open);
        hold(held <= 40, "rule 10: more than forty fields");
    }

    private static String withoutComments(String text) {
        return text.replaceAll("(?s)/\\*.*?\\*/", " ").replaceAll("//[^\n]*", " ");
    }

    private static List<String> tokensOf(String bare) {
        Matcher m = Pattern.compile("[A-Za-z_][A-Za-z_0-9]*|[0-9]+|->|::|\\S").matcher(bare);
        return m.results().map(r -> r.group()).toList();
    }

    private static void theWords(List<String> tokens) {
        for (String token : tokens) {
            hold(!RULED_OUT.contains(token), "rules 2, 3 and 6: the text has " + token);
        }
        hold(tokens.stream().filter("class"::equals).count() == 1, "rule 1: more than one class");
    }

    /** Arrays are fields, and each is made in its initialiser, so no "new" stands deeper than the class body. */
    private static void theArrays(List<String> tokens) {
        int depth = 0;
        for (String token : tokens) {
            depth += token.equals("{") ? 1 : token.equals("}") ? -1 : 0;
            hold(!token.equals("new") || depth == 1, "rule 4: something is made inside a method");
        }
        for (int i = 0; i < tokens.size(); i++) {
            if (tokens.get(i).equals("new")) {
                String made = String.join(" ", tokens.subList(i, Math.min(i + 6, tokens.size())));
                boolean constant = made.matches("new \\w+ \\[ ([1-9][0-9]*|[A-Z_]+) \\] ;");
                hold(constant, "rule 4: a length that is no constant: " + made);
            }
        }
    }

    /** The text from the brace at this place to the one that closes it. */
    private static String block(String text, int brace) {
        int depth = 0;
        for (int at = brace; at < text.length(); at++) {
            depth += text.charAt(at) == '{' ? 1 : text.charAt(at) == '}' ? -1 : 0;
            if (depth == 0) {
                return text.substring(brace, at + 1);
            }
        }
        return text.substring(brace);
    }

    /** The bodies of all methods and of the constructor, by name. */
    private static Map<String, String> bodiesOf(String bare) {
        Map<String, String> bodies = new TreeMap<>();
        Matcher head = Pattern.compile("(?:public|private)[^;={}()]*\\b(\\w+)\\s*\\([^(){}]*\\)\\s*\\{").matcher(bare);
        while (head.find()) {
            String before = bodies.put(head.group(1), block(bare, head.end() - 1));
            hold(before == null, "two methods have the name " + head.group(1));
        }
        int declared = SplitTree.class.getDeclaredMethods().length + SplitTree.class.getDeclaredConstructors().length;
        hold(bodies.size() == declared, "not all methods were found in the text: " + bodies.keySet());
        return bodies;
    }

    private static void theDepthOfCalls(Map<String, String> bodies) {
        Map<String, Integer> depths = new TreeMap<>();
        // A depth that is still growing after as many rounds as there are methods is a circle.
        for (int round = 0; round <= bodies.size(); round++) {
            for (String name : bodies.keySet()) {
                depths.put(name, 1 + deepestCalled(bodies.get(name), depths));
            }
        }
        for (String name : bodies.keySet()) {
            hold(depths.get(name) <= bodies.size(), "rule 8: recursion through " + name);
            hold(depths.get(name) <= 6, "rule 10: calls more than six deep: " + name);
        }
    }

    private static int deepestCalled(String body, Map<String, Integer> depths) {
        return Pattern.compile("(\\w+)\\s*\\(").matcher(body).results()
            .mapToInt(call -> depths.getOrDefault(call.group(1), 0)).max().orElse(0);
    }

    private static void theBodies(Map<String, String> bodies) {
        for (Map.Entry<String, String> method : bodies.entrySet()) {
            String name = method.getKey();
            String body = method.getValue();
            hold(body.lines().count() <= 60, "rule 10: a long method: " + name);
            hold(!Pattern.compile("\\]\\s*\\w+\\s*[=;,)]|\\[\\s*\\]").matcher(body).find(),
                "rule 4: a local variable names an array: " + name);
            hold(!Pattern.compile("[/%](?!\\s*[1-9])").matcher(body).find(),
                "rule 7: a divisor that is no plain number above 0: " + name);
            theLoops(name, body);
        }
    }

    /** The rule leaves more ways to write a loop; this class needs only the one that is easiest to see through. */
    private static void theLoops(String name, String body) {
        hold(!Pattern.compile("\\b(while|do)\\b").matcher(body).find(), "rule 8: a loop without a counter: " + name);
        Matcher loop = Pattern.compile("\\bfor\\b").matcher(body);
        Pattern counted = Pattern.compile("for \\(int (\\w+) = \\w+; \\1 <=? (\\w+); \\1(?:\\+\\+| \\+= [1-9])\\) \\{");
        while (loop.find()) {
            Matcher head = counted.matcher(body).region(loop.start(), body.length());
            boolean counts = head.lookingAt();
            hold(counts, "rule 8: a loop that does not count up to a bound: " + name);
            String inner = counts ? block(body, head.end() - 1) : "";
            for (String fixed : counts ? List.of(head.group(1), head.group(2)) : List.<String>of()) {
                boolean set = Pattern.compile("(\\+\\+|--)\\s*" + fixed + "\\b|\\b" + fixed
                    + "\\s*(\\+\\+|--|[-+*/%&|^]=|<<=|>>>?=|=(?!=))").matcher(inner).find();
                hold(!set, "rule 8: a loop changes its own counter or bound: " + name);
            }
        }
    }

    private static void theCalls(List<String> tokens) {
        Deque<Boolean> open = new ArrayDeque<>();
        for (int i = 1; i < tokens.size(); i++) {
            String before = tokens.get(i - 1);
            if (tokens.get(i).equals("(")) {
                boolean call = Character.isJavaIdentifierStart(before.charAt(0)) && !NO_CALLS.contains(before);
                hold(!call || !open.contains(true), "rule 10: inside the arguments of another call: " + before);
                open.push(call);
            } else if (tokens.get(i).equals(")")) {
                open.pop();
            }
        }
    }

    public static void main(String[] args) throws IOException {
        String source = System.getProperty("splittree.source", "src/main/java/SplitTree.java");
        String bare = withoutComments(Files.readString(Path.of(source)));
        List<String> tokens = tokensOf(bare);
        Map<String, String> bodies = bodiesOf(bare);
        theFace();
        theFields();
        theWords(tokens);
        theArrays(tokens);
        theCalls(tokens);
        theDepthOfCalls(bodies);
        theBodies(bodies);
        System.out.println(wrong == 0 ? "all rules looked at are kept" : wrong + " rules are broken");
        if (wrong != 0) {
            System.exit(1);
        }
    }
}
