import java.io.IOException;
import java.nio.file.Path;
import java.util.regex.Matcher;
import java.util.regex.Pattern;

/** A sentence that a test names stands in the document, word by word. */
public final class QuotesTest {
    private static final String LITERAL = "\"((?:[^\"\\\\]|\\\\.)*)\"";

    private static int named = 0;
    private static int quotes = 0;

    public static void main(String[] args) throws IOException {
        String document = oneSpaced(Texts.of(Texts.DOCUMENT));
        for (Path file : Texts.tests()) {
            compare(file.getFileName().toString(), Texts.of(file), document);
        }
        Checks.that("tests name sentences", named > 0);
        Checks.due("sentences that could be read", quotes, named);
        Checks.finish();
    }

    private static String oneSpaced(String text) {
        return text.replaceAll("\\s+", " ");
    }

    private static void compare(String name, String test, String document) {
        named += (int) Pattern.compile("Checks\\.sentence\\(").matcher(test).results().count();
        Matcher call = Pattern.compile(
                "Checks\\.sentence\\(\\s*(" + LITERAL + "(?:\\s*\\+\\s*" + LITERAL + ")*)\\);")
                .matcher(test);
        while (call.find()) {
            quotes++;
            Matcher part = Pattern.compile(LITERAL).matcher(call.group(1));
            StringBuilder sentence = new StringBuilder();
            while (part.find()) {
                sentence.append(part.group(1));
            }
            Checks.that(name + " quotes the document: " + sentence,
                    document.contains(sentence.toString()));
        }
    }
}
