import java.io.IOException;
import java.lang.reflect.Constructor;
import java.lang.reflect.Field;
import java.lang.reflect.Method;
import java.lang.reflect.Modifier;
import java.util.HashSet;
import java.util.Set;
import java.util.TreeSet;
import java.util.regex.Matcher;
import java.util.regex.Pattern;

/** The face of the class, and those rules of LANGUAGE.md that its compiled members show. */
public final class LanguageTest {
    private static final Set<Class<?>> TYPES = Set.of(
            int.class, long.class, short.class, byte.class, char.class, boolean.class);

    private static final Class<?> TYPE = MostlyCopying.class;

    public static void main(String[] args) throws ReflectiveOperationException, IOException {
        face();
        oneClass();
        methods();
        fields();
        Checks.finish();
    }

    /** The document's "The public face" and the public members are the same, values included. */
    private static void face() throws ReflectiveOperationException, IOException {
        String due = Texts.block(Texts.of(Texts.DOCUMENT), "## The public face");
        Set<String> wanted = new TreeSet<>();
        Matcher member = Pattern.compile("(?m)^    (public [^;]*);").matcher(due);
        while (member.find()) {
            wanted.add(member.group(1).replaceAll("int \\w+(?=[,)])", "int"));
        }
        Set<String> seen = new TreeSet<>();
        for (Field field : TYPE.getFields()) {
            seen.add(Modifier.toString(field.getModifiers()) + " " + field.getType() + " "
                    + field.getName() + " = " + field.get(null));
        }
        for (Constructor<?> made : TYPE.getConstructors()) {
            seen.add(made.toString().replace(",", ", "));
        }
        for (Method method : TYPE.getDeclaredMethods()) {
            if (Modifier.isPublic(method.getModifiers())) {
                seen.add(method.toString().replace("MostlyCopying.", "").replace(",", ", "));
            }
        }
        Checks.due("public members in the document", wanted.size(), 32);
        for (String line : wanted) {
            Checks.that("there is " + line, seen.contains(line));
        }
        for (String line : seen) {
            Checks.that("the document has " + line, wanted.contains(line));
        }
    }

    private static void oneClass() {
        Checks.that("public final class", TYPE.getModifiers() == (Modifier.PUBLIC | Modifier.FINAL));
        Checks.that("no package", TYPE.getPackageName().isEmpty());
        Checks.that("no other class above", TYPE.getSuperclass() == Object.class);
        Checks.due("interfaces", TYPE.getInterfaces().length, 0);
        Checks.due("nested classes", TYPE.getDeclaredClasses().length, 0);
        Checks.due("constructors", TYPE.getDeclaredConstructors().length, 1);
    }

    private static void methods() {
        Set<String> publicNames = new HashSet<>();
        for (Method method : TYPE.getMethods()) {
            publicNames.add(method.getName());
        }
        for (Method method : TYPE.getDeclaredMethods()) {
            Checks.that("at most seven parameters: " + method, method.getParameterCount() <= 7);
            Class<?> answer = method.getReturnType();
            Checks.that("answers a number or nothing: " + method,
                    answer == void.class || TYPES.contains(answer));
            for (Class<?> parameter : method.getParameterTypes()) {
                Checks.that("takes numbers and arrays of them: " + method, isAllowed(parameter));
            }
            boolean isPrivate = Modifier.isPrivate(method.getModifiers());
            Checks.that("public or private: " + method,
                    isPrivate || Modifier.isPublic(method.getModifiers()));
            Checks.that("no private method bears a public name: " + method,
                    !isPrivate || !publicNames.contains(method.getName()));
        }
    }

    private static boolean isAllowed(Class<?> type) {
        return TYPES.contains(type) || type.isArray() && TYPES.contains(type.getComponentType());
    }

    private static void fields() {
        int others = 0;
        for (Field field : TYPE.getDeclaredFields()) {
            int modifiers = field.getModifiers();
            Checks.that("a number or an array of them: " + field, isAllowed(field.getType()));
            if (Modifier.isStatic(modifiers)) {
                boolean number = field.getType() == int.class || field.getType() == long.class;
                Checks.that("a static field is a constant: " + field,
                        Modifier.isFinal(modifiers) && number);
                Checks.that("public or private: " + field,
                        Modifier.isPublic(modifiers) || Modifier.isPrivate(modifiers));
            } else {
                others++;
                Checks.that("a field is private: " + field, Modifier.isPrivate(modifiers));
                Checks.that("no method can assign to an array field: " + field,
                        Modifier.isFinal(modifiers) || !field.getType().isArray());
            }
        }
        Checks.that("at most forty fields", others <= 40);
    }
}
