import java.io.IOException;
import java.io.UncheckedIOException;
import java.nio.file.Files;
import java.nio.file.Path;
import java.util.Set;
import java.util.TreeSet;

/** Tests by sentence: each is called by words of the document, which must stand where it says, and asks something. */
final class Sentences {
    private static final Path DOCUMENT = Path.of("../shared/DOC.md");
    private static final String[] TERMS =
        {"\nI. MOUNTAIN", "\nII. COURTING", "\nIII. WAYS", "\nIV. FEWEST", "\nV. MEASURED", "\nVI. DRAWS", "\n## Promise 1:"};
    private static final String TEXT = read();
    private static final Set<String> SEEN = new TreeSet<>();

    private Sentences() {
    }

    private static String read() {
        try {
            return Files.readString(DOCUMENT);
        } catch (IOException e) {
            throw new UncheckedIOException(e);
        }
    }

    static void ofWhole(String words, Runnable test) {
        hold("the document", TEXT, words, test);
    }

    static void ofTerm(int term, String words, Runnable test) {
        int from = TEXT.indexOf(TERMS[term - 1]);
        hold("term " + term, TEXT.substring(from, TEXT.indexOf(TERMS[term])), words, test);
    }

    static void ofPromise(int promise, String words, Runnable test) {
        int from = TEXT.indexOf("\n## Promise " + promise + ":");
        hold("promise " + promise, TEXT.substring(from, TEXT.indexOf("\n## ", from + 1)), words, test);
    }

    private static void hold(String where, String part, String words, Runnable test) {
        Checks.tellAbout(where + ", '" + words + "': ");
        Checks.due("the words stand there", part.contains(words) ? 1 : 0, 1);
        int before = Checks.askedSoFar();
        test.run();
        Checks.due("something is asked", Checks.askedSoFar() > before ? 1 : 0, 1);
        Checks.tellAbout("");
        SEEN.add(where);
    }

    /** Each promise from one on till another has a sentence that was tested. */
    static void everyPromise(int... promises) {
        for (int promise : promises) {
            Checks.due("a test by sentence of promise " + promise, SEEN.contains("promise " + promise) ? 1 : 0, 1);
        }
    }
}
