import java.io.IOException;
import java.lang.reflect.Method;
import java.util.regex.Matcher;
import java.util.regex.Pattern;

/** The example in README.md answers what its comments say, and every public method is told there. */
public final class ReadmeTest {
    private static final Pattern MADE = Pattern.compile(
            "MostlyCopying heap = new MostlyCopying\\((-?\\d+), (-?\\d+)\\);.*");
    private static final Pattern CALL = Pattern.compile(
            "heap\\.(\\w+)\\(([-\\d, ]*)\\); +// (-?\\d+)\\b.*");

    public static void main(String[] args) throws IOException, ReflectiveOperationException {
        String readme = Texts.of(Texts.README);
        example(Texts.block(readme, "## How to use it"));
        for (Method method : MostlyCopying.class.getMethods()) {
            if (method.getDeclaringClass() == MostlyCopying.class) {
                Checks.that("README.md tells " + method.getName(),
                        readme.contains("`" + method.getName() + "("));
            }
        }
        Checks.finish();
    }

    private static void example(String block) throws ReflectiveOperationException {
        MostlyCopying heap = null;
        int calls = 0;
        for (String line : block.split("\n")) {
            Matcher made = MADE.matcher(line);
            Matcher call = CALL.matcher(line);
            if (made.matches()) {
                heap = new MostlyCopying(
                        Integer.parseInt(made.group(1)), Integer.parseInt(made.group(2)));
            } else if (call.matches()) {
                Checks.due(line, answer(heap, call.group(1), call.group(2)),
                        Integer.parseInt(call.group(3)));
                calls++;
            } else {
                Checks.that("a call with its answer: " + line, line.isBlank());
            }
        }
        Checks.that("the example has calls", calls > 0);
    }

    private static int answer(MostlyCopying heap, String name, String list)
            throws ReflectiveOperationException {
        String[] words = list.isEmpty() ? new String[0] : list.split(", ");
        Class<?>[] types = new Class<?>[words.length];
        Object[] values = new Object[words.length];
        for (int n = 0; n < words.length; n++) {
            types[n] = int.class;
            values[n] = Integer.valueOf(words[n]);
        }
        return (Integer) MostlyCopying.class.getMethod(name, types).invoke(heap, values);
    }
}
