import java.io.IOException;
import java.nio.file.Files;
import java.nio.file.Path;

/** Tests of single sentences: each is quoted, so that it can be found in the document, and has a test of its own. */
final class Sentences {
    private final Check check;
    private final String document;

    /** The document's path is the second argument of a test program. */
    Sentences(Check check, String[] args) throws IOException {
        this.check = check;
        document = onOneLine(Files.readString(Path.of(args.length > 1 ? args[1] : "../shared/DOC.md")));
    }

    /** The quote is a sentence of the document, or the part of one that the test is for. */
    void holds(String quote, Runnable test) {
        check.about("\"" + quote + "\"");
        check.same("the document says so", document.contains(quote), true);
        int before = check.count();
        try {
            test.run();
        } catch (RuntimeException e) {
            check.same("the test", e.toString(), "no exception");
        }
        check.same("the sentence has a test", check.count() > before, true);
    }

    private static String onOneLine(String text) {
        return text.replaceAll("\\s+", " ");
    }
}
