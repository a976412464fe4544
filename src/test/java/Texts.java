import java.io.IOException;
import java.nio.file.Files;
import java.nio.file.Path;
import java.util.List;
import java.util.stream.Stream;

/** The texts that tests read. Paths are seen from the checkout's top, where .ci/run runs them. */
final class Texts {
    static final Path DOCUMENT = Path.of("../shared/DOC.md");
    static final Path SOURCE = Path.of("src/main/java/MostlyCopying.java");
    static final Path README = Path.of("README.md");

    private static final Path TESTS = Path.of("src/test/java");

    private Texts() {
    }

    static String of(Path path) throws IOException {
        return Files.readString(path);
    }

    /** The class without its comments. */
    static String code() throws IOException {
        return of(SOURCE).replaceAll("(?s)/\\*.*?\\*/", "").replaceAll("//[^\n]*", "");
    }

    /** The text of the first ```java block behind this heading. */
    static String block(String text, String heading) {
        int from = text.indexOf("```java\n", text.indexOf(heading)) + 8;
        return text.substring(from, text.indexOf("```", from));
    }

    static List<Path> tests() throws IOException {
        try (Stream<Path> files = Files.list(TESTS)) {
            return files.filter(file -> file.toString().endsWith(".java")).sorted().toList();
        }
    }
}
