import java.io.ByteArrayOutputStream;
import java.io.File;
import java.io.IOException;
import java.io.PrintStream;
import java.net.URL;
import java.net.URLClassLoader;
import java.nio.file.Files;
import java.nio.file.Path;
import java.util.ArrayList;
import java.util.List;
import java.util.TreeSet;
import java.util.regex.Matcher;
import java.util.regex.Pattern;
import javax.tools.ToolProvider;

/** What README.md says of the use of the class and of its tests, against the class and the tests as they stand. */
public final class ReadmeTest {
    private static final Path README = Path.of("README.md");
    private static final Path SOURCE = Path.of("src/main/java/FrameBoard.java");
    private static final Path TESTS = Path.of("src/test/java");
    private static final Pattern PRINTED = Pattern.compile("\\s*System\\.out\\.println\\((.*)\\);\\s*// (-?[0-9]+): \\S.*");

    private final Checks checks = new Checks();
    private final String readme;
    private final Document document;

    private ReadmeTest(String readme, Document document) {
        this.readme = readme;
        this.document = document;
    }

    public static void main(String[] args) throws Exception {
        ReadmeTest test = new ReadmeTest(Files.readString(README), Document.ofTheClass());
        test.example();
        test.calls();
        test.constants();
        test.limits();
        test.script();
        test.tests();
        test.places();
        test.checks.finish("ReadmeTest");
    }

    /** All that the page says with these words between two marks. */
    private List<String> found(String pattern) {
        List<String> all = new ArrayList<>();
        Matcher matcher = Pattern.compile(pattern, Pattern.DOTALL).matcher(readme);
        while (matcher.find()) {
            all.add(matcher.group(1));
        }
        return all;
    }

    private void says(String words) {
        checks.due("says \"" + words + "\"", readme.replaceAll("\\s+", " ").contains(words) ? 1 : 0, 1);
    }

    private void example() throws Exception {
        checks.of("the example");
        List<String> blocks = found("```java\n(.*?)```");
        checks.due("examples", blocks.size(), 1);
        checks.due("answers behind calls outside of the example", found("(\\(\\w*(?:, \\w+)*\\)`? (?:=|is) -?[0-9])").size(), 0);
        List<String> calls = new ArrayList<>();
        List<String> answers = new ArrayList<>();
        for (String line : blocks.get(0).split("\n")) {
            Matcher matcher = PRINTED.matcher(line);
            checks.due("an answer behind its call: " + line, line.contains("print") == matcher.matches() ? 1 : 0, 1);
            checks.due("a note that is no answer: " + line, line.contains("//") == matcher.matches() ? 1 : 0, 1);
            if (matcher.matches()) {
                calls.add(matcher.group(1));
                answers.add(matcher.group(2));
            }
        }
        List<String> printed = printedBy(blocks.get(0));
        checks.due("lines that the example prints", printed.size(), answers.size());
        for (int i = 0; i < Math.min(printed.size(), answers.size()); i++) {
            checks.due(calls.get(i), Long.parseLong(printed.get(i)), Long.parseLong(answers.get(i)));
        }
    }

    /** Compiles the example together with the class, and runs it where it sees nothing else of this project. */
    private List<String> printedBy(String example) throws Exception {
        Path place = Files.createTempDirectory("readme");
        Path source = Files.writeString(place.resolve("Example.java"), example);
        int errors = ToolProvider.getSystemJavaCompiler().run(null, null, null, "-encoding", "UTF-8", "-d",
            place.toString(), SOURCE.toString(), source.toString());
        checks.due("errors of the compiler", errors, 0);
        PrintStream before = System.out;
        ByteArrayOutputStream written = new ByteArrayOutputStream();
        try (URLClassLoader loader = new URLClassLoader(new URL[] {place.toUri().toURL()},
                ClassLoader.getPlatformClassLoader()); PrintStream out = new PrintStream(written, true)) {
            System.setOut(out);
            loader.loadClass("Example").getMethod("main", String[].class).invoke(null, (Object) new String[0]);
        } finally {
            System.setOut(before);
            remove(place.toFile());
        }
        return written.toString().lines().toList();
    }

    private static void remove(File file) {
        File[] inside = file.listFiles();
        for (File one : inside == null ? new File[0] : inside) {
            remove(one);
        }
        file.delete();
    }

    /** The page's calls are those of the document, in its order, each once in the table. */
    private void calls() {
        checks.of("the calls");
        StringBuilder want = new StringBuilder();
        for (int promise = 2; promise <= 31; promise++) {
            want.append(document.signature(promise).replaceAll("\\b(int|long|boolean) ", "")).append(' ');
        }
        String named = String.join(" ", found("`(\\w+\\([a-z, ]*\\))`(?=[^\n]*\\|\n)")) + " ";
        checks.due(named + "instead of " + want, named.equals(want.toString()) ? 1 : 0, 1);
    }

    private void constants() throws ReflectiveOperationException {
        checks.of("the constants");
        List<String> rows = found("\n\\| (`[A-Z]+` \\| -?[0-9]+) \\|");
        checks.due("rows", rows.size(), 5);
        for (String row : rows) {
            String[] sides = row.replace("`", "").split(" \\| ");
            checks.due(sides[0], FrameBoard.class.getField(sides[0]).getInt(null), Long.parseLong(sides[1]));
        }
    }

    /** Each number is the one at which the class says FULL, STATE or a fault. */
    private void limits() {
        checks.of("the limits");
        says("room for " + lastOf("letter(112)") + " characters on the page, " + lastOf("add()") + " worlds, "
            + lastSign() + " signs and " + lastOf("see(0, true)") + " observations; `fail` and `tells` answer "
            + timesOf("fail(1, 0)") + " times each.");
        checks.due("times of tells()", timesOf("tells(0)"), timesOf("fail(1, 0)"));
        says("An object is good for 512 calls.");
        checks.due("says the document", document.body("What it is").contains("at most 512 calls") ? 1 : 0, 1);
    }

    private long lastOf(String call) {
        FrameBoard board = checks.with("k1:;pq", "p");
        long last = 0;
        for (long answer = checks.ask(board, call); answer != FrameBoard.FULL; answer = checks.ask(board, call)) {
            last = call.equals("add()") ? answer + 1 : answer;
        }
        return last;
    }

    private long timesOf(String call) {
        FrameBoard board = checks.with("k1:;pq", "p");
        int times = 0;
        while (checks.ask(board, call) != FrameBoard.STATE) {
            times++;
        }
        return times;
    }

    private long lastSign() {
        FrameBoard board = new FrameBoard();
        checks.write(board, "~".repeat(66));
        return checks.ask(board, "fault(1)") + 1;
    }

    private void script() throws IOException {
        checks.of("the script");
        Path script = Path.of(".ci/run");
        says("## How to run the tests .ci/run It is a shell script and needs a JDK 17 (its `javac` and `java` on the path,"
            + " nothing else), a place for temporary files, and `../shared` beside this folder");
        checks.due("can be run", Files.isExecutable(script) ? 1 : 0, 1);
        String lines = Files.readString(script);
        for (String words : new String[] {"#!/bin/sh\n", "javac ", "java ", "mktemp", "../shared/tests/*.java",
            "src/test/java/*Test.java", "src/main/java/FrameBoard.java"}) {
            checks.due("the script has " + words, lines.contains(words) ? 1 : 0, 1);
        }
    }

    /** Each test has an item of its own, and each other file stands in one; nothing is named that there is not. */
    private void tests() throws IOException {
        checks.of("the tests");
        TreeSet<String> files = new TreeSet<>();
        TreeSet<String> tests = new TreeSet<>();
        for (File file : TESTS.toFile().listFiles()) {
            String name = file.getName().replaceFirst("\\.java$", "");
            files.add(name);
            if (name.endsWith("Test")) {
                tests.add(name);
            }
        }
        checks.due("items " + found("\n- `(\\w+)`: ") + " for " + tests,
            found("\n- `(\\w+)`: ").equals(List.copyOf(tests)) ? 1 : 0, 1);
        TreeSet<String> named = new TreeSet<>(found("`([A-Z][a-z]\\w+)`"));
        named.remove("FrameBoard");
        checks.due("names " + named + " for " + files, named.equals(files) ? 1 : 0, 1);
        says(RandomRunsTest.RUNS + " runs of " + RandomRunsTest.CALLS + " calls");
        checks.due("examples of the document", document.example(5).isEmpty() ? 0 : 1, 1);
        says("the five examples");
    }

    /** Each place in the project, or beside it, that the page names is there. */
    private void places() {
        checks.of("the places");
        for (String place : found("`((?:\\.\\./shared|src|\\.ci)[\\w/.]*)`")) {
            checks.due("there is " + place, Files.exists(Path.of(place)) ? 1 : 0, 1);
        }
        for (String name : new String[] {"DOC.md", "LANGUAGE.md", "tests"}) {
            checks.due("there is " + name, Files.exists(Path.of("../shared", name)) ? 1 : 0, 1);
        }
    }
}
