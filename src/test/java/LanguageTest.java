import java.io.IOException;
import java.lang.reflect.Field;
import java.lang.reflect.Method;
import java.lang.reflect.Modifier;
import java.nio.file.Files;
import java.nio.file.Path;
import java.util.LinkedHashMap;
import java.util.Map;
import java.util.Set;
import java.util.TreeSet;
import java.util.regex.Matcher;
import java.util.regex.Pattern;

/**
 * Those rules of LANGUAGE.md that can be seen in the class's text and in its members.
 * It is run from the project's root, as .ci/run does.
 */
public final class LanguageTest {
    private static final Path SOURCE = Path.of("src/main/java/ResponseDesk.java");
    private static final Set<String> FORBIDDEN = Set.of(
        "package", "import", "interface", "enum", "record", "extends", "implements", "protected", "float", "double",
        "var", "null", "throw", "throws", "try", "catch", "finally", "synchronized", "assert", "instanceof", "native",
        "String", "Object", "Math", "Integer", "Long", "System", "Arrays", "Thread");
    private static final Pattern FOREIGN_MEMBER = Pattern.compile("(?<!\\bthis)\\.(?!length\\b)");
    private static final Pattern NEW = Pattern.compile("\\bnew\\b");
    private static final Set<String> NO_CALLS = Set.of("if", "for", "while", "switch", "return");
    private static final Set<Class<?>> TYPES = Set.of(
        int.class, long.class, short.class, byte.class, char.class, boolean.class,
        int[].class, long[].class, short[].class, byte[].class, char[].class, boolean[].class);
    private static final Pattern CALL = Pattern.compile("\\b(\\w+) ?\\(");
    private static final Pattern HEAD = Pattern.compile(
        "(?m)^    (?:public|private) (?:static )?[\\w\\[\\]]+ (\\w+)\\(([^)]*)\\) \\{");
    private static final Pattern ARRAY_FIELD = Pattern.compile(
        "(?m)^    private final \\w+\\[\\] \\w+ = new \\w+\\[\\w+\\];");
    private static final Pattern LOOP = Pattern.compile("\\b(for|while|do)\\b ?[({]");
    private static final Pattern FOR_HEAD = Pattern.compile(
        "int (\\w+) = [^;]+; (\\w+) ([<>])=? [^;]+; (\\w+)(\\+\\+|--)");
    private static final Pattern WHILE_HEAD = Pattern.compile("(\\w+) ([<>])=? [^|]+");

    private static final Map<String, String> bodies = new LinkedHashMap<>();
    private static int wrong = 0;

    private static void due(String rule, String what, boolean holds) {
        if (!holds) {
            wrong++;
            System.out.println(rule + ": " + what);
        }
    }

    private static int count(Pattern wanted, String text) {
        return (int) wanted.matcher(text).results().count();
    }

    /** The place after the bracket that closes the one before the place given. */
    private static int afterClosing(String text, int place, char open, char close) {
        int depth = 1;
        int i = place;
        while (i < text.length() && depth > 0) {
            depth += text.charAt(i) == open ? 1 : text.charAt(i) == close ? -1 : 0;
            i++;
        }
        return i;
    }

    private static void words(String code) {
        Matcher word = Pattern.compile("[A-Za-z_]\\w*").matcher(code);
        while (word.find()) {
            due("rules 1 to 6", "the word " + word.group(), !FORBIDDEN.contains(word.group()));
        }
        due("rule 1", "more than one class", count(Pattern.compile("\\bclass\\b"), code) == 1);
        due("rule 2", "a text", code.indexOf('"') < 0);
        due("rule 2", "a type of arrays of arrays", !code.contains("[]["));
        due("rule 3", "a member of something else", count(FOREIGN_MEMBER, code) == 0);
        due("rule 4", "an array that no field's initialiser makes", count(NEW, code) == count(ARRAY_FIELD, code));
        due("rule 5", "a static initialiser", count(Pattern.compile("static\\s*\\{"), code) == 0);
        due("rule 6", "a lambda or method reference", !code.contains("->") && !code.contains("::"));
        due("rule 7", "a divisor", code.indexOf('/') < 0 && code.indexOf('%') < 0);
    }

    private static void collectBodies(String code) {
        Matcher head = HEAD.matcher(code);
        while (head.find()) {
            String body = code.substring(head.end(), afterClosing(code, head.end(), '{', '}'));
            due("rule 1", "two methods are named " + head.group(1), bodies.put(head.group(1), body) == null);
            due("rule 10", head.group(1) + " takes over seven parameters", head.group(2).split(",").length <= 7);
            due("rule 10", head.group(1) + " has over sixty lines", body.lines().count() <= 60);
        }
        int methods = ResponseDesk.class.getDeclaredMethods().length;
        due("rule 1", "a method that this test doesn't see", bodies.size() == methods);
    }

    private static Set<String> callsIn(String text) {
        Set<String> names = new TreeSet<>();
        Matcher call = CALL.matcher(text);
        while (call.find()) {
            names.add(call.group(1));
        }
        names.removeAll(NO_CALLS);
        return names;
    }

    private static void arguments(String name, String body) {
        Matcher call = CALL.matcher(body);
        while (call.find()) {
            String inside = body.substring(call.end(), afterClosing(body, call.end(), '(', ')') - 1);
            boolean nested = !NO_CALLS.contains(call.group(1)) && !callsIn(inside).isEmpty();
            due("rule 10", "in " + name + " a call inside the arguments of " + call.group(1), !nested);
        }
    }

    /** Goes no deeper than one call too many, so that it ends for recursion too. */
    private static int depth(String name, int above) {
        int deepest = above + 1;
        for (String called : callsIn(bodies.getOrDefault(name, ""))) {
            due("rule 3", name + " calls " + called, bodies.containsKey(called));
            if (above < 6) {
                deepest = Math.max(deepest, depth(called, above + 1));
            }
        }
        return deepest;
    }

    /** The loop's counter, or nothing when its head isn't a counter against a bound. */
    private static String counterOf(String kind, String head, String body) {
        Matcher counted = FOR_HEAD.matcher(head);
        if (kind.equals("for") && !head.contains("||") && counted.matches()) {
            boolean one = counted.group(1).equals(counted.group(2)) && counted.group(1).equals(counted.group(4));
            boolean towards = counted.group(3).equals("<") == counted.group(5).equals("++");
            return one && towards ? counted.group(1) : "";
        }
        Matcher bounded = WHILE_HEAD.matcher(head);
        if (kind.equals("while") && bounded.matches()) {
            String step = bounded.group(1) + (bounded.group(2).equals("<") ? "++;" : "--;");
            // A step behind a condition or a continue could be missed, so it stands in the loop's own lines.
            String own = body.replaceAll("(?s)\\{.*\\}", "");
            return own.contains(step) && !body.contains("continue") ? bounded.group(1) : "";
        }
        return "";
    }

    private static void loops(String name, String body) {
        Matcher loop = LOOP.matcher(body);
        while (loop.find()) {
            int headEnd = afterClosing(body, loop.end(), '(', ')');
            String head = body.substring(loop.end(), headEnd - 1);
            int bodyStart = body.indexOf('{', headEnd) + 1;
            String inside = body.substring(bodyStart, afterClosing(body, bodyStart, '{', '}') - 1);
            String counter = counterOf(loop.group(1), head, inside);
            due("rule 8", "in " + name + " the end of the loop " + head, !counter.isEmpty());
            Pattern set = Pattern.compile("\\b" + counter + " ?(?:[-+*/%&|^]|<<|>>>?)?=(?!=)");
            boolean kept = counter.isEmpty() || count(set, inside) == 0;
            due("rule 8", "in " + name + " the counter " + counter + " is set", kept);
        }
    }

    private static void members() {
        Set<String> open = new TreeSet<>();
        Set<String> hidden = new TreeSet<>();
        for (Method m : ResponseDesk.class.getDeclaredMethods()) {
            (Modifier.isPublic(m.getModifiers()) ? open : hidden).add(m.getName());
            due("rule 4", m.getName() + " answers an array", !m.getReturnType().isArray());
        }
        hidden.retainAll(open);
        due("rule 1", "private methods named as public ones: " + hidden, hidden.isEmpty());
        due("rule 1", "a nested class", ResponseDesk.class.getDeclaredClasses().length == 0);
        int kept = 0;
        for (Field f : ResponseDesk.class.getDeclaredFields()) {
            boolean fixed = Modifier.isStatic(f.getModifiers());
            boolean whole = f.getType() == int.class || f.getType() == long.class;
            boolean constant = Modifier.isFinal(f.getModifiers()) && whole;
            due("rule 5", "the static field " + f.getName(), !fixed || constant);
            due("rule 2", "the type of " + f.getName(), TYPES.contains(f.getType()));
            kept += fixed ? 0 : 1;
        }
        due("rule 10", "over forty fields", kept <= 40);
    }

    public static void main(String[] args) throws IOException {
        String code = Files.readString(SOURCE).replaceAll("(?s)/\\*.*?\\*/", "").replaceAll("//[^\\n]*", "");
        words(code);
        collectBodies(code);
        for (Map.Entry<String, String> one : bodies.entrySet()) {
            arguments(one.getKey(), one.getValue());
            loops(one.getKey(), one.getValue());
            due("rule 10", "calls from " + one.getKey() + " go over six deep or recur", depth(one.getKey(), 0) <= 6);
        }
        members();
        System.out.println(wrong == 0 ? "the class keeps to what was looked at" : wrong + " breaches");
        if (wrong != 0) {
            System.exit(1);
        }
    }
}
