import java.io.IOException;
import java.io.StringWriter;
import java.nio.file.Files;
import java.nio.file.Path;
import java.util.ArrayList;
import java.util.Comparator;
import java.util.List;
import java.util.concurrent.ExecutorService;
import java.util.concurrent.Executors;
import java.util.concurrent.Future;
import java.util.concurrent.TimeUnit;
import java.util.regex.Matcher;
import java.util.regex.Pattern;
import javax.tools.JavaCompiler;
import javax.tools.ToolProvider;

/**
 * Changes TimedJoin in one spot at a time and tells which changes no test sees. Not part of .ci/run, as a
 * change that is not seen may be one that alters no answer. Run where src/ is, with the names of tests:
 * java src/tools/java/Changes.java BoundariesOfRowsTest ..
 */
public final class Changes {
    private static final Path SOURCE = Path.of("src/main/java/TimedJoin.java");
    private static final long PATIENCE_SECONDS = 60;

    /** What is looked for, and what comes in its place. */
    private static final String[][] RULES = {
        {" < ", " <= "}, {" < ", " > "}, {" <= ", " < "}, {" > ", " >= "}, {" > ", " < "}, {" >= ", " > "},
        {" == ", " != "}, {" != ", " == "}, {" && ", " || "}, {" \\|\\| ", " && "}, {"!(?=[a-z])", ""},
        {" \\+ ", " - "}, {" - ", " + "}, {" \\+= ", " -= "}, {"\\+\\+;", "--;"}, {"(?<=; )[a-z]+\\+\\+(?=\\))", ""},
        {"Math\\.max", "Math.min"}, {"Math\\.min", "Math.max"}, {"\\btrue\\b", "false"}, {"\\bfalse\\b", "true"},
        {"(?<![\\w.])0(?![\\w.])", "1"}, {"(?<![\\w.])1(?![\\w.])", "2"}, {"(?<![\\w.])1(?![\\w.])", "0"},
        {"(?<![\\w.])(\\d*[2-9]\\d*|\\d\\d+)(?![\\w.])", "($1 + 1)"}, {"(?<![\\w.])(\\d*[2-9]\\d*|\\d\\d+)(?![\\w.])", "($1 - 1)"},
        {"\\bNONE\\b", "(NONE - 1)"}, {"return NO_SUCH;", "return NONE;"}, {"return NONE;", "return 0;"},
        {"\\bLEFT\\b", "RIGHT"}, {"\\bRIGHT\\b", "LEFT"}, {"\\bstart\\b", "end"}, {"\\bend\\b", "start"},
        {"startPlace", "endPlace"}, {"endPlace", "startPlace"}, {"ofLeft", "ofRight"}, {"ofRight", "ofLeft"},
        {"^( +)(?!return|break|continue|final|private|boolean|int|long|Rows|State|Codes|Course|Trouble)[\\w.\\[\\]() *+-]+( [-+|&]?= .*)?;$", "$1;"},
        {"^( +)[A-Za-z][\\w.]*\\(.*\\);$", "$1;"}};

    private final List<String> lines;
    private final List<String> tests;
    private final Path room;
    private int tried;
    private int seen;
    private int impossible;

    private Changes(List<String> tests) throws IOException {
        this.tests = tests;
        lines = Files.readAllLines(SOURCE);
        room = Files.createTempDirectory("changes");
    }

    public static void main(String[] args) throws Exception {
        Changes changes = new Changes(List.of(args));
        if (!changes.compile(changes.room.resolve("tests"), SOURCE, true)) {
            throw new IllegalStateException("the tests do not compile");
        }
        changes.tryAll();
    }

    private record Change(int line, String before, String after) {
    }

    private List<Change> all() {
        List<Change> found = new ArrayList<>();
        boolean comment = false;
        for (int n = 0; n < lines.size(); n++) {
            String line = lines.get(n);
            String bare = line.strip();
            comment = comment ? !lines.get(n - 1).contains("*/") : bare.startsWith("/*");
            if (comment || bare.startsWith("//") || bare.startsWith("*")) {
                continue;
            }
            for (String[] rule : RULES) {
                Matcher m = Pattern.compile(rule[0]).matcher(line);
                while (m.find()) {
                    StringBuilder after = new StringBuilder();
                    Matcher one = Pattern.compile(rule[0]).matcher(line);
                    if (one.find(m.start())) {
                        after.append(line, 0, one.start());
                        after.append(one.group().replaceAll("(?s)^.*$", Matcher.quoteReplacement(filled(rule[1], one))));
                        after.append(line.substring(one.end()));
                        Change change = new Change(n, line, after.toString());
                        if (!found.contains(change)) {
                            found.add(change);
                        }
                    }
                }
            }
        }
        return found;
    }

    private static String filled(String with, Matcher of) {
        return of.groupCount() > 0 && of.group(1) != null ? with.replace("$1", of.group(1)) : with;
    }

    private void tryAll() throws Exception {
        ExecutorService hands = Executors.newFixedThreadPool(Runtime.getRuntime().availableProcessors());
        List<Change> changes = all();
        List<Future<String>> answers = new ArrayList<>();
        for (int c = 0; c < changes.size(); c++) {
            int number = c;
            answers.add(hands.submit(() -> tryOne(number, changes.get(number))));
        }
        for (int c = 0; c < changes.size(); c++) {
            tell(changes.get(c), answers.get(c).get());
        }
        hands.shutdown();
        remove(room);
        System.out.println(tried + " changes, " + seen + " seen, " + impossible + " that do not compile");
    }

    private void tell(Change change, String answer) {
        tried++;
        if (answer.equals("seen")) {
            seen++;
        } else if (answer.equals("impossible")) {
            impossible++;
        } else {
            // A test that is late may be one that never ends, or just a long one: the reader has to tell.
            String late = answer.equals("late") ? "late: " : "";
            System.out.println(late + "line " + (change.line + 1) + ": " + change.before.strip() + "   ->   " + change.after.strip());
        }
    }

    private String tryOne(int number, Change change) throws IOException, InterruptedException {
        Path out = Files.createDirectories(room.resolve("c" + number));
        List<String> changed = new ArrayList<>(lines);
        changed.set(change.line, change.after);
        Path file = Files.write(Files.createDirectories(out.resolve("source")).resolve("TimedJoin.java"), changed);
        String answer = compile(out.resolve("classes"), file, false) ? testsOf(out) : "impossible";
        remove(out);
        return answer;
    }

    private static void remove(Path top) throws IOException {
        try (var all = Files.walk(top)) {
            for (Path p : all.sorted(Comparator.reverseOrder()).toList()) {
                Files.delete(p);
            }
        }
    }

    private String testsOf(Path out) throws IOException, InterruptedException {
        for (String test : tests) {
            String path = out.resolve("classes") + System.getProperty("path.separator") + room.resolve("tests");
            Process p = new ProcessBuilder("java", "-XX:TieredStopAtLevel=1", "-Xshare:auto", "-cp", path, test)
                .redirectErrorStream(true).redirectOutput(ProcessBuilder.Redirect.DISCARD).start();
            if (!p.waitFor(PATIENCE_SECONDS, TimeUnit.SECONDS)) {
                p.destroyForcibly();
                return "late";
            }
            if (p.exitValue() != 0) {
                return "seen";
            }
        }
        return "unseen";
    }

    private boolean compile(Path to, Path source, boolean withTests) throws IOException {
        Files.createDirectories(to);
        List<String> words = new ArrayList<>(List.of("-nowarn", "-d", to.toString(), source.toString()));
        if (withTests) {
            try (var files = Files.list(Path.of("src/test/java"))) {
                files.forEach(f -> words.add(f.toString()));
            }
        }
        JavaCompiler compiler = ToolProvider.getSystemJavaCompiler();
        StringWriter said = new StringWriter();
        var options = words.subList(0, 3);
        var manager = compiler.getStandardFileManager(null, null, null);
        var files = manager.getJavaFileObjectsFromStrings(words.subList(3, words.size()));
        return compiler.getTask(said, manager, null, options, null, files).call();
    }
}
