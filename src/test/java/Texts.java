import java.io.IOException;
import java.io.UncheckedIOException;
import java.nio.file.Files;
import java.nio.file.Path;

/** The document and README.md, found from the project's own directory, in which the tests run. */
final class Texts {
    private static final Path DOCUMENT = Path.of("..", "shared", "DOC.md");
    private static final Path README = Path.of("README.md");

    private static String flatDocument;

    private Texts() {
    }

    static String document() {
        return read(DOCUMENT);
    }

    static String readme() {
        return read(README);
    }

    static boolean documentSays(String words) {
        if (flatDocument == null) {
            flatDocument = flat(document());
        }
        return flatDocument.contains(words);
    }

    /** The text in one line, as the two texts break theirs at other places. */
    static String flat(String text) {
        return text.replaceAll("\\s+", " ").trim();
    }

    private static String read(Path path) {
        try {
            return Files.readString(path);
        } catch (IOException e) {
            throw new UncheckedIOException(e);
        }
    }
}
