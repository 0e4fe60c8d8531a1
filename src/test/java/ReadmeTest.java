import java.io.IOException;
import java.lang.reflect.Method;
import java.lang.reflect.Modifier;
import java.nio.file.Files;
import java.nio.file.Path;

/** README.md says how to use the class: its calls are answered as it says. Run where README.md is. */
public final class ReadmeTest {
    private final Check check = new Check("ReadmeTest");
    private final String page;

    private ReadmeTest(String page) {
        this.page = page;
    }

    public static void main(String[] args) throws IOException {
        ReadmeTest test = new ReadmeTest(Files.readString(Path.of("README.md")));
        test.itsCalls();
        test.everyCall();
        test.check.end();
    }

    /** The line stands on the page, and what it says of the answer is what is due. */
    private void says(String call, String words, long got, long want) {
        boolean stands = page.lines().anyMatch(line -> line.startsWith(call) && line.contains("// ") && line.contains(words));
        check.due("README.md has " + call + " with '" + words + "'", stands, true);
        check.due(call, got, want);
    }

    private void itsCalls() {
        TimedJoin x = new TimedJoin();
        says("x.add(0, 0, 1, 0, 10, 5);", "answers its number, 0", x.add(0, 0, 1, 0, 10, 5), 0);
        says("x.batch(0, 1, 2, 6, 3);", "two rows told together", x.batch(0, 1, 2, 6, 3), 1);
        check.due("the second", x.batch(0, 1, 6, 9, 4), 2);
        says("x.load(1);", "answers 2", x.load(1), 2);
        says("x.sweep();", "6 events", x.sweep(), 6);
        says("x.step(160);", "take them all", x.step(160), 6);
        says("x.pair(TimedJoin.NONE, 0);", "2 pairs", x.pair(TimedJoin.NONE, 0), 2);
        says("x.pair(0, 2);", "kind 8", x.pair(0, 2), 8);
        says("x.pair(0, 5);", "they share 4", x.pair(0, 5), 4);
        says("x.piece(0, 0, 0, 2);", "NONE: nobody", x.piece(0, 0, 0, 2), TimedJoin.NONE);
        says("x.left(0, 0, 2);", "until 2", x.left(0, 0, 2), 2);
    }

    private void everyCall() {
        for (Method m : TimedJoin.class.getDeclaredMethods()) {
            if (Modifier.isPublic(m.getModifiers())) {
                check.due("README.md tells of " + m.getName(), page.contains("`" + m.getName() + "`"), true);
            }
        }
        check.due("README.md tells how to run the tests", page.contains("    .ci/run\n"), true);
    }
}
