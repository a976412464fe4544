import java.io.IOException;
import java.util.LinkedHashMap;
import java.util.LinkedHashSet;
import java.util.Map;
import java.util.Set;
import java.util.TreeSet;
import java.util.regex.Matcher;
import java.util.regex.Pattern;

/**
 * Those rules of LANGUAGE.md that the text of the class shows. It reads the class as it is laid out
 * here, members at four spaces, and asks of loops one form alone; that is narrower than the rules.
 */
public final class SourceTest {
    private static final String[] BARRED = {
        "import", "package", "throw", "throws", "try", "catch", "finally", "synchronized", "assert",
        "instanceof", "null", "float", "double", "interface", "enum", "record", "protected",
        "length", "clone", "getClass", "hashCode", "equals", "toString", "notify", "notifyAll",
        "wait", "finalize", "var", "while", "do"
    };

    // A name before a bracket is a call, but for these words.
    private static final String CALL =
            "\\b(?!if\\b|for\\b|while\\b|switch\\b|return\\b)([a-zA-Z]\\w*)\\(";

    private static final int MOST_LINES = 60;
    private static final int MOST_DEPTH = 6;

    private static String code;
    private static final Map<String, String> BODIES = new LinkedHashMap<>();
    private static final Map<String, Set<String>> CALLS = new LinkedHashMap<>();

    public static void main(String[] args) throws IOException {
        code = Texts.code();
        readMethods();
        readCalls();
        barredWords();
        namesOfClasses();
        staticFields();
        arraysMade();
        callsInArguments();
        methodsAreShort();
        callsEnd();
        loopsEnd();
        Checks.finish();
    }

    private static void readMethods() {
        Pattern head = Pattern.compile("\n    (?:public|private) [^=;(]*?(\\w+)\\([^)]*\\) \\{\n");
        Matcher method = head.matcher(code);
        while (method.find()) {
            int end = code.indexOf("\n    }\n", method.end() - 1);
            BODIES.put(method.group(1), code.substring(method.end(), end + 1));
        }
        Checks.due("methods and constructor read",
                BODIES.size(), MostlyCopying.class.getDeclaredMethods().length + 1);
    }

    private static void readCalls() {
        BODIES.forEach((name, body) -> {
            Set<String> called = new LinkedHashSet<>();
            Matcher call = Pattern.compile(CALL).matcher(body);
            while (call.find()) {
                called.add(call.group(1));
                Checks.that("rule 3, " + call.group(1) + " is a method of the class",
                        BODIES.containsKey(call.group(1)));
            }
            CALLS.put(name, called);
        });
    }

    private static void barredWords() {
        for (String word : BARRED) {
            Checks.that("no " + word, !Pattern.compile("\\b" + word + "\\b").matcher(code).find());
        }
        for (String sign : new String[] {"->", "::", ".", "\"", "'", "@", "[][]", "][", "static {"}) {
            Checks.that("no " + sign, !code.contains(sign));
        }
    }

    private static void namesOfClasses() {
        Matcher name = Pattern.compile("\\b[A-Z]\\w*").matcher(code);
        while (name.find()) {
            boolean constant = name.group().matches("[A-Z][A-Z_]*");
            Checks.that("rule 3, no class of the library: " + name.group(),
                    constant || name.group().equals("MostlyCopying"));
        }
    }

    private static void staticFields() {
        Matcher field = Pattern.compile("\\bstatic (?!\\w+ \\w+\\()[^;]*;").matcher(code);
        while (field.find()) {
            Checks.that("rule 5, a compile-time constant: " + field.group(),
                    field.group().matches("static final (int|long) \\w+ = [-+*/0-9A-Z_ ]+;"));
        }
    }

    private static void arraysMade() {
        Matcher made = Pattern.compile("\\bnew\\b").matcher(code);
        Matcher inField = Pattern.compile(
                "\n    private final \\w+\\[\\] \\w+ = new \\w+\\[[A-Z_]+\\];").matcher(code);
        Checks.due("rule 4, arrays made outside the fields' initialisers",
                (int) (made.results().count() - inField.results().count()), 0);
    }

    private static void callsInArguments() {
        Pattern nested = Pattern.compile(CALL + "[^();{}]*" + CALL);
        for (String line : code.split("[;{}]")) {
            Checks.that("rule 10, no call in the arguments of another: " + line.strip(),
                    !nested.matcher(line).find());
        }
    }

    private static void methodsAreShort() {
        BODIES.forEach((name, body) -> Checks.that("rule 10, " + name + " is short",
                body.lines().count() + 2 <= MOST_LINES));
    }

    /** Methods whose calls all lead to settled ones settle in rounds; a recursion never does. */
    private static void callsEnd() {
        Set<String> settled = new TreeSet<>();
        for (int depth = 1; depth <= MOST_DEPTH; depth++) {
            Set<String> before = new TreeSet<>(settled);
            CALLS.forEach((name, called) -> {
                if (before.containsAll(called)) {
                    settled.add(name);
                }
            });
        }
        for (String name : CALLS.keySet()) {
            Checks.that("rules 8 and 10, calls from " + name + " end, at most six deep",
                    settled.contains(name));
        }
    }

    /** Rule 8: a counter that the loop's body leaves alone, against a bound that stands still. */
    private static void loopsEnd() {
        Matcher loops = Pattern.compile("\\bfor\\b").matcher(code);
        Pattern form = Pattern.compile(
                "for \\(int (\\w+) = \\w+; \\1 < (\\w+)(?: && [^;]*)?; \\1\\+\\+\\) \\{\n");
        while (loops.find()) {
            String rest = code.substring(loops.start());
            String line = rest.substring(0, rest.indexOf('\n'));
            Matcher loop = form.matcher(rest);
            if (!loop.lookingAt()) {
                Checks.that("rule 8, a counter against a bound: " + line, false);
                continue;
            }
            String body = rest.substring(loop.end(), closing(rest, loop.end()));
            Checks.that("rule 8, the counter is only counted: " + line,
                    !assigns(body, loop.group(1)));
            Checks.that("rule 8, the bound stands still: " + line, standsStill(body, loop.group(2)));
        }
    }

    private static int closing(String text, int from) {
        int open = 1;
        int at = from;
        while (open > 0) {
            open += text.charAt(at) == '{' ? 1 : text.charAt(at) == '}' ? -1 : 0;
            at++;
        }
        return at - 1;
    }

    private static boolean assigns(String body, String name) {
        String sign = "\\s*([-+*/%&|^]|<<|>>>?)?=(?!=)";
        return Pattern.compile("\\b" + name + "(" + sign + "|\\+\\+|--)|(\\+\\+|--)" + name + "\\b")
                .matcher(body).find();
    }

    /** A called method can change a field that isn't final, so only other names will do. */
    private static boolean standsStill(String body, String bound) {
        boolean variableField = Pattern.compile("\n    private \\w+ " + bound + "\\b")
                .matcher(code).find();
        return !variableField && !assigns(body, bound);
    }
}
