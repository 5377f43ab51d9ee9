import java.io.IOException;
import java.nio.file.Files;
import java.nio.file.Path;
import java.util.HashSet;
import java.util.Set;

/** Counts the answers of a test, prints those that are not due with the sentence they break, and ends it. */
final class Check {
    private static int right = 0;
    private static int wrong = 0;
    private static final Set<String> SENTENCES = new HashSet<>();
    private static String sentence = "";
    private static String document = null;

    private Check() {
    }

    /** The sentence of the document that the next answers are about. */
    static void sentence(String quote) {
        SENTENCES.add(quote);
        sentence = quote;
        if (!document().isEmpty() && !document().contains(quote)) {
            System.out.println("not in the document as it is now: " + quote);
        }
    }

    /** The document's text, or nothing if it is not here: the tests do without it. */
    private static String document() {
        if (document == null) {
            String told = System.getenv("WAVE_DOC");
            Path path = Path.of(told == null ? "../shared/DOC.md" : told);
            try {
                document = Files.isReadable(path) ? Files.readString(path) : "";
            } catch (IOException e) {
                document = "";
            }
        }
        return document;
    }

    static void due(String what, long got, long want) {
        if (got == want) {
            right++;
            return;
        }
        wrong++;
        if (wrong <= 50) {
            System.out.println(what + " answered " + got + ", due is " + want
                + (sentence.isEmpty() ? "" : " [" + sentence + "]"));
        }
    }

    static void due(String what, boolean got, boolean want) {
        due(what, got ? 1 : 0, want ? 1 : 0);
    }

    static void end() {
        System.out.println(right + " answers as due, " + wrong + " not"
            + (SENTENCES.isEmpty() ? "" : ", for " + SENTENCES.size() + " sentences"));
        if (wrong != 0 || right == 0) {
            System.exit(1);
        }
    }
}
