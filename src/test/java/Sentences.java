import java.io.IOException;
import java.io.UncheckedIOException;
import java.nio.file.Files;
import java.nio.file.Path;

/**
 * Answers held against sentences of the document that name a boundary case: what is told of a wrong
 * one has its promise's number and the sentence. Run where ../shared is.
 */
final class Sentences {
    static final int NONE = TimedJoin.NONE;
    static final int NO_SUCH = -10000000;
    static final int LEAST = Integer.MIN_VALUE;
    static final int MOST = Integer.MAX_VALUE;

    private static final Path DOCUMENT = Path.of("..", "shared", "DOC.md");

    private final Check check;
    private final String document;
    private final boolean[] named = new boolean[38];
    private String about = "";
    private int answers = 1;

    Sentences(String name) {
        check = new Check(name);
        document = read();
    }

    private static String read() {
        if (!Files.isReadable(DOCUMENT)) {
            return "";
        }
        try {
            return Files.readString(DOCUMENT).replaceAll("\\s+", " ");
        } catch (IOException e) {
            throw new UncheckedIOException(e);
        }
    }

    /** What is due from here on is due by this sentence; the promise is the one whose calls keep it. */
    void says(int promise, String sentence) {
        endSentence();
        about = "promise " + promise + ", '" + sentence + "': ";
        named[promise] = true;
        answers = 0;
        if (!document.isEmpty()) {
            check.due(about + "stands in the document", document.contains(sentence), true);
        }
    }

    private void endSentence() {
        check.due(about + "has an answer to it", answers > 0, true);
    }

    void due(String call, long got, long want) {
        answers++;
        check.due(about + call, got, want);
    }

    void due(String call, boolean got, boolean want) {
        answers++;
        check.due(about + call, got, want);
    }

    /** The causes of TROUBLE, each by its kind and its number. */
    void causes(String call, TimedJoin x, int... kindsAndNumbers) {
        int count = kindsAndNumbers.length / 2;
        due(call + ", how many causes", x.trouble(NONE, 0), count);
        for (int c = 0; c < count; c++) {
            due(call + ", cause " + c, x.trouble(c, 0), kindsAndNumbers[2 * c]);
            due(call + ", number of cause " + c, x.trouble(c, 1), kindsAndNumbers[2 * c + 1]);
        }
        due(call + ", behind the last cause", x.trouble(count, 0), NO_SUCH);
    }

    void end(int... promises) {
        endSentence();
        for (int p : promises) {
            check.due("promise " + p + " has a sentence", named[p], true);
        }
        check.end();
    }

    /** n ROWS of a SIDE in RUN 0, KEY 0, one behind another: k from k to k + 1, its VALUE k. */
    static TimedJoin inARow(int side, int n) {
        TimedJoin x = new TimedJoin();
        for (int k = 0; k < n; k++) {
            x.add(side, 0, 0, k, k + 1, k);
        }
        return x;
    }

    /** One ROW of each SIDE, both with KEY 0. */
    static TimedJoin two(int start, int end, int otherStart, int otherEnd) {
        TimedJoin x = new TimedJoin();
        x.add(0, 0, 0, start, end, 1);
        x.add(1, 0, 0, otherStart, otherEnd, 1);
        return x;
    }
}
