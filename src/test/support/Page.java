import java.io.IOException;
import java.nio.file.Files;
import java.nio.file.Path;

/** The document, gone through from its first line: piece after piece is quoted, and behind each stands what it asks for. */
final class Page {
    private final String text;
    private int at = 0;
    private String heading = "";
    private String piece = "";
    private int askedAhead = 0;
    private boolean mustAsk = false;
    private int pieces = 0;

    Page(Path document) throws IOException {
        text = folded(Files.readString(document).replaceAll("(?m)^```.*$", ""));
    }

    private static String folded(String words) {
        return words.replaceAll("\\s+", " ").trim();
    }

    /** The next piece; what is asked from here on is due by it, and something must be. */
    void says(String words) {
        turnTo(words);
        mustAsk = true;
        pieces++;
    }

    /** The next heading, which the pieces behind it belong to. */
    void head(String words) {
        free(words);
        heading = words.replaceFirst("^#+ ", "");
    }

    /** The next piece, which promises nothing. */
    void free(String words) {
        turnTo(words);
        mustAsk = false;
    }

    private void turnTo(String words) {
        lookBack();
        piece = folded(words);
        int found = text.indexOf(piece, at);
        if (found < 0) {
            Bench.fails("the document doesn't say behind the last piece: " + piece);
        } else {
            if (!text.substring(at, found).isBlank()) {
                Bench.fails("no test of: " + text.substring(at, found));
            }
            at = found + piece.length();
        }
        askedAhead = Bench.asked();
        Bench.named(heading + " '" + piece + "'");
    }

    private void lookBack() {
        if (mustAsk && Bench.asked() == askedAhead) {
            Bench.fails("nothing is asked by: " + heading + " '" + piece + "'");
        }
    }

    void end() {
        lookBack();
        if (!text.substring(at).isBlank()) {
            Bench.fails("no test of: " + text.substring(at));
        }
        Bench.end(pieces + " pieces of the document");
    }
}
