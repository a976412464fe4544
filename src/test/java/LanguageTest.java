import java.io.IOException;
import java.lang.reflect.Constructor;
import java.lang.reflect.Field;
import java.lang.reflect.Method;
import java.lang.reflect.Modifier;
import java.nio.file.Files;
import java.nio.file.Path;
import java.util.HashSet;
import java.util.Set;
import java.util.TreeSet;
import java.util.regex.Matcher;
import java.util.regex.Pattern;

/** The face of the class, and those rules of LANGUAGE.md that can be seen without much reading. */
public final class LanguageTest {
    private static final Path SOURCE = Path.of("src/main/java/MostlyCopying.java");

    private static final Set<String> METHODS = Set.of(
            "setRoot/2", "alloc/3", "put/3", "link/3", "load/3", "collect/0", "root/1", "baseOf/1",
            "serialAt/1", "addressOf/1", "shapeAt/1", "field/2", "pageState/1", "openAddress/0",
            "wordsUsed/0");

    private static final Set<String> CONSTANTS = Set.of(
            "ORIGIN", "PAGES", "PAGE_WORDS", "LAST_SERIAL", "OK", "BAD_ROOT", "NO_OBJECT",
            "BAD_FIELD", "WRONG_KIND", "BAD_SHAPE", "FULL", "SPENT", "BAD_PAGE", "FREE", "MOBILE",
            "PROMOTED");

    private static final String[] BARRED = {
        "import", "package", "throw", "throws", "try", "catch", "finally", "synchronized", "assert",
        "instanceof", "null", "float", "double", "String", "Math", "Integer", "System", "Arrays",
        "Object", "interface", "enum", "record", "protected", "length", "clone", "var", "->", "::"
    };

    public static void main(String[] args) throws IOException {
        face();
        fields();
        source();
        Checks.finish();
    }

    private static void face() {
        Class<?> type = MostlyCopying.class;
        Checks.that("public final class", type.getModifiers() == (Modifier.PUBLIC | Modifier.FINAL));
        Checks.due("nested classes", type.getDeclaredClasses().length, 0);
        Constructor<?>[] made = type.getDeclaredConstructors();
        Checks.due("constructors", made.length, 1);
        Checks.that("the constructor is public", Modifier.isPublic(made[0].getModifiers()));
        Set<String> methods = new TreeSet<>();
        Set<String> publicNames = new HashSet<>();
        for (Method method : type.getDeclaredMethods()) {
            Checks.that("at most seven parameters", method.getParameterCount() <= 7);
            if (!Modifier.isPrivate(method.getModifiers())) {
                Checks.that(method + " is due", method.getModifiers() == Modifier.PUBLIC);
                Checks.that(method + " answers int", method.getReturnType() == int.class);
                methods.add(method.getName() + "/" + method.getParameterCount());
                publicNames.add(method.getName());
            }
        }
        Checks.that("public methods are " + METHODS + ": " + methods, methods.equals(METHODS));
        for (Method method : type.getDeclaredMethods()) {
            boolean hides = Modifier.isPrivate(method.getModifiers())
                    && publicNames.contains(method.getName());
            Checks.that("no private method bears a public name: " + method, !hides);
        }
    }

    private static void fields() {
        Set<String> constants = new TreeSet<>();
        int others = 0;
        for (Field field : MostlyCopying.class.getDeclaredFields()) {
            int modifiers = field.getModifiers();
            if (Modifier.isStatic(modifiers)) {
                boolean constant = Modifier.isFinal(modifiers) && field.getType() == int.class;
                Checks.that("a static field is an int constant: " + field, constant);
            } else {
                others++;
                Checks.that("a field is private: " + field, Modifier.isPrivate(modifiers));
            }
            if (!Modifier.isPrivate(modifiers)) {
                Checks.that("a constant is public: " + field, Modifier.isPublic(modifiers));
                constants.add(field.getName());
            }
        }
        Checks.that("public constants are " + CONSTANTS, constants.equals(CONSTANTS));
        Checks.that("at most forty fields", others <= 40);
    }

    private static void source() throws IOException {
        String code = Files.readString(SOURCE)
                .replaceAll("(?s)/\\*.*?\\*/", "").replaceAll("//[^\n]*", "");
        for (String word : BARRED) {
            String sought = Character.isLetter(word.charAt(0)) ? "\\b" + word + "\\b" : word;
            Checks.that("no " + word, !Pattern.compile(sought).matcher(code).find());
        }
        Matcher made = Pattern.compile("\\bnew\\b").matcher(code);
        Matcher inField = Pattern.compile(
                "\n    private final \\w+\\[\\] \\w+ = new \\w+\\[[A-Z_]+\\];").matcher(code);
        Checks.due("arrays made outside the fields' initialisers",
                (int) (made.results().count() - inField.results().count()), 0);
        // A name before a bracket is a call, but for these words.
        String call = "\\b(?!if\\b|for\\b|while\\b|switch\\b|return\\b)[a-z]\\w*\\(";
        Pattern nested = Pattern.compile(call + "[^();{}]*" + call);
        for (String line : code.split("[;{}]")) {
            Checks.that("no call in the arguments of another: " + line.strip(),
                    !nested.matcher(line).find());
        }
    }
}
