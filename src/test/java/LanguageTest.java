import java.io.IOException;
import java.lang.reflect.Field;
import java.lang.reflect.Method;
import java.lang.reflect.Modifier;
import java.nio.file.Files;
import java.nio.file.Path;
import java.util.Map;
import java.util.Set;
import java.util.TreeMap;
import java.util.TreeSet;
import java.util.regex.Matcher;
import java.util.regex.Pattern;

/**
 * LANGUAGE.md: those of its rules that can be seen in the compiled class or in the
 * words of the source. Rules 4 and 7 and the ends of loops are left to reading.
 */
public final class LanguageTest {
    private static final int MOST_DEEP = 6;
    private static final int MOST_LINES = 60;
    private static final Pattern CALL = Pattern.compile("\\b(\\w+)\\(");
    private static final Pattern HEAD = Pattern.compile("    (?:public|private) [^;=]*?(\\w+)\\(.*\\{");
    // What a library class or another object would need; capitals are tried apart.
    private static final Set<String> RULED_OUT = Set.of(
        "package", "import", "interface", "enum", "record", "float", "double", "null", "throw", "throws",
        "try", "catch", "finally", "synchronized", "assert", "instanceof", "var", "extends",
        "implements", "super", "protected", "native", "volatile", "transient", "strictfp");
    private static final Set<String> NO_CALLS = Set.of("if", "for", "while", "switch", "return");

    public static void main(String[] args) throws IOException {
        String source = withoutComments(Files.readString(Path.of("src/main/java/TableauDesk.java")));
        Map<String, String> bodies = bodies(source);
        namesOfMethods();
        fields();
        words(source);
        callsInArguments(source);
        lengths(bodies);
        depths(bodies);
        Check.end();
    }

    private static String withoutComments(String text) {
        return text.replaceAll("(?s)/\\*.*?\\*/", "").replaceAll("//.*", "");
    }

    private static void namesOfMethods() {
        Check.sentence("Rules 1 and 10: no private method bears a public name; at most seven parameters");
        Set<String> open = new TreeSet<>();
        for (Method method : TableauDesk.class.getMethods()) {
            open.add(method.getName());
        }
        for (Method method : TableauDesk.class.getDeclaredMethods()) {
            boolean hidden = Modifier.isPrivate(method.getModifiers());
            Check.due(method.toString(), hidden && open.contains(method.getName()) ? 1 : 0, 0);
            Check.due(method.toString(), method.getParameterCount() > 7 ? 1 : 0, 0);
        }
    }

    private static void fields() {
        Check.sentence("Rules 2 and 5: fields of numbers; static ones are constants of int or long");
        for (Field field : TableauDesk.class.getDeclaredFields()) {
            Class<?> type = field.getType();
            Class<?> item = type.isArray() ? type.getComponentType() : type;
            Check.due(field.toString(), item.isPrimitive() ? 1 : 0, 1);
            if (Modifier.isStatic(field.getModifiers())) {
                boolean constant = Modifier.isFinal(field.getModifiers())
                    && (type == int.class || type == long.class);
                Check.due(field.toString(), constant ? 1 : 0, 1);
            }
        }
    }

    private static void words(String source) {
        Check.sentence("Rules 2, 3 and 6: no word of the library, of objects or of exceptions");
        for (String word : source.split("\\W+")) {
            boolean className = word.matches("[A-Z]\\w*[a-z]\\w*") && !word.equals("TableauDesk");
            Check.due("word " + word, RULED_OUT.contains(word) || className ? 1 : 0, 0);
        }
        for (String sign : new String[] {"->", "::", "\"", "@", "[][]"}) {
            Check.due("sign " + sign, source.contains(sign) ? 1 : 0, 0);
        }
    }

    private static void callsInArguments(String source) {
        Check.sentence("Rule 10: no call stands inside the arguments of another call");
        Matcher call = CALL.matcher(source);
        while (call.find()) {
            if (!NO_CALLS.contains(call.group(1))) {
                int end = call.end();
                for (int open = 1; open > 0; end++) {
                    open += source.charAt(end) == '(' ? 1 : source.charAt(end) == ')' ? -1 : 0;
                }
                String inside = source.substring(call.end(), end);
                Check.due(call.group() + inside, CALL.matcher(inside).find() ? 1 : 0, 0);
            }
        }
    }

    private static void lengths(Map<String, String> bodies) {
        Check.sentence("Rule 10: methods stay short");
        bodies.forEach((name, body) ->
            Check.due(name, body.lines().count() > MOST_LINES ? 1 : 0, 0));
    }

    /** A method that calls itself on some way round is never left at any depth. */
    private static void depths(Map<String, String> bodies) {
        Check.sentence("Rules 8 and 10: no recursion, and calls go at most six deep");
        for (Method method : TableauDesk.class.getDeclaredMethods()) {
            Check.due("found: " + method, bodies.containsKey(method.getName()) ? 1 : 0, 1);
        }
        for (String first : bodies.keySet()) {
            Set<String> reached = Set.of(first);
            for (int depth = 1; depth <= MOST_DEEP; depth++) {
                reached = calledBy(reached, bodies);
            }
            Check.due("more than six deep from " + first + ": " + reached, reached.size(), 0);
        }
    }

    private static Set<String> calledBy(Set<String> names, Map<String, String> bodies) {
        Set<String> called = new TreeSet<>();
        for (String name : names) {
            Matcher call = CALL.matcher(bodies.get(name));
            while (call.find()) {
                if (bodies.containsKey(call.group(1))) {
                    called.add(call.group(1));
                }
            }
        }
        return called;
    }

    /** The lines of each method, and of the constructor, after its head. */
    private static Map<String, String> bodies(String source) {
        Map<String, String> bodies = new TreeMap<>();
        String name = "";
        for (String line : source.split("\n")) {
            Matcher head = HEAD.matcher(line);
            if (head.matches()) {
                name = head.group(1);
                bodies.put(name, "");
            } else if (!name.isEmpty()) {
                bodies.merge(name, line + "\n", String::concat);
            }
        }
        return bodies;
    }
}
