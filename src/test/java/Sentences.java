import java.io.IOException;
import java.io.UncheckedIOException;
import java.nio.file.Files;
import java.nio.file.Path;

/**
 * What the boundary tests share: their main methods are tables of the document's sentences that
 * name a boundary case (too small, too large, empty, full, a wrap-around, a refused call), in
 * its words, each with its test.
 */
abstract class Sentences extends Examples {
    static final Checks checks = new Checks();
    private static final String DOCUMENT = oneLine(read(Path.of("../shared/DOC.md")));

    /** A sentence that the document does not have is wrong, as is a test that throws or checks nothing. */
    static void sentence(String words, Runnable test) {
        checks.about('"' + words + '"');
        checks.due("stands in the document", DOCUMENT.contains(words), true);
        int before = checks.made();
        try {
            test.run();
        } catch (RuntimeException thrown) {
            checks.due("a call", thrown.toString(), "an answer");
        }
        checks.due("has checks", checks.made() > before, true);
    }

    private static String read(Path file) {
        try {
            return Files.readString(file);
        } catch (IOException unread) {
            throw new UncheckedIOException(unread);
        }
    }

    private static String oneLine(String text) {
        return text.replaceAll("\\s+", " ");
    }
}
