import java.io.IOException;
import java.nio.file.Files;
import java.nio.file.Path;
import java.util.TreeSet;

/** The boundary cases, one sentence of the document after the other: its words, and the answers that are due there. */
final class Edges {
    /** The part of the document ahead of promise 1. */
    static final int TERMS = 0;
    static final int BAD = -2;
    static final int NOT = -3;
    static final int FULL = -4;
    static final int NULL = -11;
    static final int INDEX = -12;
    static final int CAST = -13;
    static final int STORE = -14;
    static final int SIZE = -15;
    static final int LEAST = Integer.MIN_VALUE;
    static final int MOST = Integer.MAX_VALUE;
    private static final int PROMISES = 39;
    private static final Path DOCUMENT = Path.of("../shared/DOC.md");
    private final Checks checks = new Checks();
    private final String[] sections = readSections();
    private final TreeSet<Integer> promisesSeen = new TreeSet<>();
    private String where = "";

    private static String[] readSections() {
        if (!Files.exists(DOCUMENT)) {
            System.out.println("no " + DOCUMENT + ": the words of the sentences are not compared");
            return new String[0];
        }
        try {
            String text = Files.readString(DOCUMENT).replaceAll("\\s+", " ");
            return text.split("## Promise \\d+: |## Not promised");
        } catch (IOException e) {
            throw new IllegalStateException(e);
        }
    }

    /** What follows is due by these words of the document, which must stand there. */
    void sentence(int promise, String words) {
        where = (promise == TERMS ? "Terms" : "Promise " + promise) + ", \"" + words + "\"";
        promisesSeen.add(promise);
        if (sections.length > PROMISES) {
            due("the words stand there", sections[promise].contains(words) ? 1 : 0, 1);
        }
    }

    void due(String call, long got, long want) {
        checks.due(where + ": " + call, got, want);
    }

    /** Each of these calls is to answer the same. */
    void all(String calls, long want, long... got) {
        for (int i = 0; i < got.length; i++) {
            due(calls + " [" + i + "]", got[i], want);
        }
    }

    void fraction(String call, long above, long below, long wantAbove, long wantBelow) {
        due(call + " above", above, wantAbove);
        due(call + " below", below, wantBelow);
    }

    void end(int firstPromise, int lastPromise) {
        for (int promise = firstPromise; promise <= lastPromise; promise++) {
            where = "Promise " + promise;
            due("has a test", promisesSeen.contains(promise) ? 1 : 0, 1);
        }
        checks.end();
    }
}
