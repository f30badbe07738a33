import java.io.IOException;
import java.nio.file.Files;
import java.nio.file.Path;
import java.util.HashSet;
import java.util.Set;

/**
 * Looks at answers sentence by sentence. Each sentence is quoted from the document: it must stand in the section of
 * the promise that is named, or in the description, and have answers of its own that are looked at.
 */
final class Sentences {
    static final int UNKNOWN = -1, OUTSIDE = -2, STATE = -3, FULL = -4, NONE = -9;
    static final int LEAST = Integer.MIN_VALUE, MOST = Integer.MAX_VALUE;
    /** Out of every range of small numbers, and what becomes small if it is cut to fewer bits. */
    static final int[] FAR = {LEAST, LEAST + 1, -256, 256, 65536, 1 << 30, MOST};

    private final Due due;
    private final String document;
    private final Set<Integer> promises = new HashSet<>();
    private String sentence = "";
    private int sentences = 0;
    private int looked = 1;

    Sentences(String test) {
        due = new Due(test);
        document = read(Path.of(System.getProperty("root", "."), "..", "shared", "DOC.md"));
    }

    private static String read(Path path) {
        try {
            return plain(Files.readString(path));
        } catch (IOException e) {
            System.out.println(path + " cannot be read: quotes are not compared with it");
            return "";
        }
    }

    private static String plain(String text) {
        return text.replaceAll("\\s+", " ");
    }

    private String section(String from, String to) {
        int start = document.indexOf(from);
        int end = document.indexOf(to, start + from.length());
        return start < 0 ? "" : document.substring(start, end < 0 ? document.length() : end);
    }

    /** A new sentence, on which the promise rests; the answers that follow are those of its test. */
    void of(int promise, String quote) {
        endSentence();
        promises.add(promise);
        sentences++;
        sentence = "promise " + promise + ", \"" + quote + "\"";
        String own = section("## Promise " + promise + ":", "## ");
        String shared = section("## Description", "## ");
        due.holds(sentence + ": the quote", document.isEmpty() || own.contains(plain(quote)) || shared.contains(plain(quote)));
        if (Boolean.getBoolean("quotes")) {
            System.out.println("QUOTE " + promise + " " + plain(quote));
        }
    }

    void is(String call, long got, long want) {
        looked++;
        due.is(sentence + ": " + call, got, want);
    }

    private void endSentence() {
        due.holds(sentence + ": a test of its own", looked > 0);
        looked = 0;
    }

    /** Ends the test, which must have named each promise from the first to the last. */
    void finish(int first, int last) {
        endSentence();
        for (int promise = first; promise <= last; promise++) {
            due.holds("a sentence of promise " + promise, promises.contains(promise));
        }
        System.out.println(sentences + " sentences");
        due.finish();
    }
}
