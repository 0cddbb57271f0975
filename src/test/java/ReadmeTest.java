import java.io.IOException;
import java.lang.reflect.Field;
import java.lang.reflect.Method;
import java.lang.reflect.Modifier;
import java.nio.file.Files;
import java.nio.file.Path;
import java.nio.file.StandardCopyOption;
import java.util.ArrayList;
import java.util.Comparator;
import java.util.List;
import java.util.TreeSet;
import java.util.regex.Matcher;
import java.util.regex.Pattern;
import java.util.stream.Collectors;
import java.util.stream.Stream;

/**
 * Does what README.md tells a reader to do, in copies of the project, and looks whether it turns out as
 * README.md says; run from the project's root.
 */
public final class ReadmeTest {
    private static final Asks ASKS = new Asks("ReadmeTest");
    private static final Path CLASS = Path.of("src/main/java/CoalitionChecker.java");
    private static final Path TESTS = Path.of("src/test/java");
    private static final Path SHARED_TESTS = Path.of("../shared/tests");
    private static final Path SCRIPT = Path.of(".ci/run");

    private final String readme;
    private final Path room;

    private ReadmeTest(String readme, Path room) {
        this.readme = readme;
        this.room = room;
    }

    public static void main(String[] args) throws IOException, InterruptedException {
        Path room = Files.createTempDirectory("readme");
        try {
            ReadmeTest test = new ReadmeTest(Files.readString(Path.of("README.md")), room);
            test.refusals();
            test.formulas();
            test.tour();
            test.everyTest();
            test.failures();
            test.oneTest();
            test.notes();
        } finally {
            remove(room);
        }
        ASKS.finish();
    }

    /** The rows of the table tell the constants of the class, and all of them. */
    private void refusals() {
        ASKS.by("README, Refusals");
        TreeSet<String> shown = new TreeSet<>();
        Matcher row = Pattern.compile("(?m)^\\| `(\\w+)` \\| (-?\\d+) \\|").matcher(readme);
        while (row.find()) {
            shown.add(row.group(1) + " " + row.group(2));
        }
        TreeSet<String> due = new TreeSet<>();
        for (Field f : CoalitionChecker.class.getDeclaredFields()) {
            if (Modifier.isPublic(f.getModifiers())) {
                due.add(f.getName() + " " + constant(f.getName()));
            }
        }
        ASKS.same("the constants", String.join(", ", shown), String.join(", ", due));
    }

    /** What stands between backticks before the colon of a line is a formula for two agents. */
    private void formulas() {
        ASKS.by("README, Formulas");
        int found = 0;
        for (String line : section("### Formulas").split("\n")) {
            Matcher m = Pattern.compile("`([^`]+)`").matcher(line);
            while (line.startsWith("- ") && m.find()) {
                ASKS.due("read of " + m.group(1), Boards.read(new CoalitionChecker(2), m.group(1)), 0);
                found++;
            }
        }
        ASKS.due("enough formulas: " + found, found >= 10 ? 1 : 0, 1);
    }

    /** The program is made and run by the commands beside it; its answers are those of its comments. */
    private void tour() throws IOException, InterruptedException {
        ASKS.by("README, A tour");
        Path project = copy("tour");
        String program = onlyBlock("### A tour", "java");
        Files.writeString(project.resolve("Tour.java"), program);
        for (Method m : CoalitionChecker.class.getDeclaredMethods()) {
            if (Modifier.isPublic(m.getModifiers())) {
                ASKS.due("shows " + m.getName(), program.contains("c." + m.getName() + "(") ? 1 : 0, 1);
            }
        }
        Outcome outcome = run(project, onlyBlock("### A tour", "sh"));
        ASKS.due("the commands: " + outcome.complaints, outcome.code, 0);
        answers(program, outcome.told.split("\n"));
    }

    private static void answers(String program, String[] told) {
        int line = 0;
        for (String text : program.split("\n")) {
            if (!text.startsWith("        show(")) {
                continue;
            }
            Matcher m = Pattern.compile(" *(.*); *// (-?\\d+)( \\((\\w+)\\))?(:.*)?").matcher(text);
            ASKS.due("a line with an answer: " + text, m.matches() ? 1 : 0, 1);
            if (!m.matches()) {
                return;
            }
            ASKS.same(m.group(1), line < told.length ? told[line] : "nothing", m.group(2));
            if (m.group(4) != null) {
                ASKS.due(m.group(4), Long.parseLong(m.group(2)), constant(m.group(4)));
            }
            line++;
        }
        ASKS.due("lines of answers", told.length, line);
    }

    /** The command runs each test by its name; what is run here has nothing of the test but the name. */
    private void everyTest() throws IOException, InterruptedException {
        ASKS.by("README, Tests: compiles and runs every test");
        Path project = copy("every");
        for (Path test : testFiles()) {
            writeTest(project.resolve(test).normalize(), 0);
        }
        Files.writeString(project.resolve(TESTS).resolve("Helper.java"), "this is no Java");
        Outcome outcome = run(project, onlyBlock("## Tests", "sh", ".ci/run"));
        ASKS.due("the exit code: " + outcome.complaints, outcome.code, 0);
        for (Path test : testFiles()) {
            ASKS.due(test + " is named", outcome.told.contains(test.toString()) ? 1 : 0, 1);
            ASKS.due(test + " is run", outcome.told.contains(said(test)) ? 1 : 0, 1);
        }
        ASKS.due("the count", outcome.told.contains(testFiles().size() + " passed, 0 failed") ? 1 : 0, 1);
    }

    private void failures() throws IOException, InterruptedException {
        ASKS.by("README, Tests: exit code 0 only if none has failed");
        Path own = TESTS.resolve("OwnTest.java");
        Path shared = SHARED_TESTS.resolve("Shared.java");
        ASKS.due("a test of the project that fails", twoTests("own", own, shared, 1, 0).code, 1);
        ASKS.due("a shared test that fails", twoTests("shared", own, shared, 0, 1).code, 1);
        Path broken = copy("broken");
        Files.writeString(broken.resolve(own), "this is no Java");
        writeTest(broken.resolve(shared).normalize(), 0);
        Outcome outcome = run(broken, onlyBlock("## Tests", "sh", ".ci/run"));
        ASKS.due("a test that can't be compiled", outcome.code, 1);
        ASKS.due("the count", outcome.told.contains("1 passed, 1 failed") ? 1 : 0, 1);
    }

    private Outcome twoTests(String name, Path own, Path shared, int ownCode, int sharedCode)
            throws IOException, InterruptedException {
        Path project = copy(name);
        writeTest(project.resolve(own), ownCode);
        writeTest(project.resolve(shared).normalize(), sharedCode);
        return run(project, onlyBlock("## Tests", "sh", ".ci/run"));
    }

    /** The test that is run by itself is the real one, with all that it needs. */
    private void oneTest() throws IOException, InterruptedException {
        ASKS.by("README, Tests: one test by itself");
        Path project = copy("one");
        for (Path source : files(TESTS)) {
            Files.copy(source, project.resolve(source));
        }
        Outcome outcome = run(project, onlyBlock("## Tests", "sh", "EdgeTest"));
        ASKS.due("the exit code: " + outcome.complaints, outcome.code, 0);
        ASKS.due("its last line", outcome.told.matches("(?s).*EdgeTest: \\d+ answers asked, 0 wrong\n") ? 1 : 0, 1);
    }

    private void notes() throws IOException {
        ASKS.by("README, Tests: what each test looks after stands in NOTES.md");
        String notes = Files.readString(Path.of("NOTES.md"));
        for (Path test : files(TESTS)) {
            ASKS.due(test.toString(), notes.contains("`" + className(test) + "`") ? 1 : 0, 1);
        }
    }

    private static long constant(String name) {
        switch (name) {
            case "BAD":
                return CoalitionChecker.BAD;
            case "FULL":
                return CoalitionChecker.FULL;
            case "FORM":
                return CoalitionChecker.FORM;
            case "NONE":
                return CoalitionChecker.NONE;
            default:
                throw new IllegalArgumentException("no constant " + name);
        }
    }

    /** From the heading to the next one of the same or a higher level; a line of code is no heading. */
    private String section(String heading) {
        StringBuilder text = new StringBuilder();
        boolean inside = false;
        boolean code = false;
        int level = heading.indexOf(' ');
        for (String line : readme.split("\n")) {
            if (!code && line.matches("#{1," + level + "} .*")) {
                inside = line.equals(heading);
            }
            if (line.startsWith("```")) {
                code = !code;
            }
            if (inside) {
                text.append(line).append('\n');
            }
        }
        return text.toString();
    }

    private String onlyBlock(String heading, String language) {
        return onlyBlock(heading, language, "");
    }

    /** The block of code under the heading, in the language and with the word in it, of which there must be one. */
    private String onlyBlock(String heading, String language, String word) {
        List<String> found = new ArrayList<>();
        Matcher m = Pattern.compile("(?ms)^```" + language + "\n(.*?)^```$").matcher(section(heading));
        while (m.find()) {
            if (m.group(1).contains(word)) {
                found.add(m.group(1));
            }
        }
        if (found.size() != 1) {
            throw new IllegalArgumentException(found.size() + " blocks under " + heading + " with " + word);
        }
        return found.get(0);
    }

    /** A project with the class and the script, but without tests yet, and with a shared directory beside it. */
    private Path copy(String name) throws IOException {
        Path project = room.resolve(name).resolve("project");
        for (Path file : List.of(CLASS, SCRIPT)) {
            Files.createDirectories(project.resolve(file).getParent());
            Files.copy(file, project.resolve(file), StandardCopyOption.COPY_ATTRIBUTES);
        }
        Files.createDirectories(project.resolve(TESTS));
        Files.createDirectories(project.resolve(SHARED_TESTS).normalize());
        return project;
    }

    private static List<Path> files(Path directory) throws IOException {
        try (Stream<Path> files = Files.list(directory)) {
            return files.filter(f -> f.toString().endsWith(".java")).sorted().collect(Collectors.toList());
        }
    }

    private static List<Path> testFiles() throws IOException {
        List<Path> tests = new ArrayList<>(files(SHARED_TESTS));
        for (Path file : files(TESTS)) {
            if (file.toString().endsWith("Test.java")) {
                tests.add(file);
            }
        }
        return tests;
    }

    private static String className(Path test) {
        return test.getFileName().toString().replace(".java", "");
    }

    private static String said(Path test) {
        return className(test) + " was run";
    }

    private static void writeTest(Path test, int code) throws IOException {
        Files.writeString(test, "public final class " + className(test) + " {\n"
                + "    public static void main(String[] args) {\n"
                + "        System.out.println(\"" + said(test) + " with \" + new CoalitionChecker(1).agents());\n"
                + "        System.exit(" + code + ");\n    }\n}\n");
    }

    private static final class Outcome {
        final int code;
        final String told;
        final String complaints;

        Outcome(int code, String told, String complaints) {
            this.code = code;
            this.told = told;
            this.complaints = complaints;
        }
    }

    /** What the commands complain of is kept apart from what they tell: a machine may add its own to it. */
    private Outcome run(Path directory, String commands) throws IOException, InterruptedException {
        Path complaints = room.resolve("complaints");
        Process process = new ProcessBuilder("bash", "-e", "-c", commands)
                .directory(directory.toFile()).redirectError(complaints.toFile()).start();
        process.getOutputStream().close();
        String told = new String(process.getInputStream().readAllBytes());
        return new Outcome(process.waitFor(), told, Files.readString(complaints));
    }

    private static void remove(Path directory) throws IOException {
        try (Stream<Path> all = Files.walk(directory)) {
            for (Path path : all.sorted(Comparator.reverseOrder()).collect(Collectors.toList())) {
                Files.delete(path);
            }
        }
    }
}
