import java.nio.charset.StandardCharsets;
import java.nio.file.Files;
import java.nio.file.Path;
import java.util.List;
import java.util.Map;
import java.util.regex.Pattern;
import java.util.stream.Stream;

/**
 * The command that README.md names for the tests, run in small projects that stand beside a shared folder as this one
 * does: it runs every test that it finds there, and fails if one of them fails. That it finds all tests of this
 * project is looked at by their names.
 */
public final class CiTest {
    private static final String SCRIPT = ".ci/run";
    private static final String CLASS = "src/main/java/FleetShares.java";
    private static final String TESTS = "src/test/java";
    private static final Pattern MAIN = Pattern.compile("\\bstatic void main\\(String");

    private static final String FIRST = "main/" + TESTS + "/FirstTest.java";
    private static final String SECOND = "main/" + TESTS + "/SecondTest.java";
    private static final String THIRD = "shared/tests/Third.java";
    private static final String FOURTH = "shared/tests/Fourth.java";
    private static final List<String> PLANTED = List.of(FIRST, SECOND, THIRD, FOURTH);

    /** How a planted test ends, if it is there at all. */
    private enum End { GOOD, WRONG, THROWS, NO_JAVA, NOT_THERE }

    private record Ran(int exit, String said) {
        boolean says(String line) {
            return said.lines().anyMatch(line::equals);
        }

        long timesRun(String test) {
            return said.lines().filter(("ran " + nameOf(test))::equals).count();
        }
    }

    public static void main(String[] args) throws Exception {
        everyTestIsFound();
        String command = new Readme().testCommand();
        passesIfAllAreGood(command);
        failsIfOneIs(command, FIRST, End.WRONG);
        failsIfOneIs(command, SECOND, End.THROWS);
        failsIfOneIs(command, SECOND, End.NO_JAVA);
        failsIfOneIs(command, THIRD, End.NO_JAVA);
        failsIfOneIs(command, FOURTH, End.WRONG);
        Ran alone = run(command, Map.of(THIRD, End.NOT_THERE, FOURTH, End.NOT_THERE));
        Due.is("without shared tests it fails", alone.exit != 0, true);
        Due.end("CiTest");
    }

    /** The script takes what bears a test's name: so what can be run must bear it, and stand where the script looks. */
    private static void everyTestIsFound() throws Exception {
        Due.is(SCRIPT + " can be run", Files.isExecutable(Path.of(SCRIPT)), true);
        try (Stream<Path> files = Files.walk(Path.of("src"))) {
            for (Path file : files.filter(Files::isRegularFile).filter(f -> !f.equals(Path.of(CLASS))).toList()) {
                boolean canBeRun = MAIN.matcher(Files.readString(file)).find();
                Due.is(file + " has a test's name", file.toString().endsWith("Test.java"), canBeRun);
                Due.is(file + " stands in", file.getParent().toString(), TESTS);
            }
        }
    }

    private static void passesIfAllAreGood(String command) throws Exception {
        Ran ran = run(command, Map.of());
        Due.is("all are good: exit code of " + command, ran.exit, 0);
        Due.is("all are good: it says so", ran.says("4 passed, 0 failed"), true);
        for (String test : PLANTED) {
            Due.is("all are good: runs of " + test, ran.timesRun(test), 1);
        }
    }

    /** The others are run all the same, but for the project's own if one of them is no Java. */
    private static void failsIfOneIs(String command, String bad, End end) throws Exception {
        Ran ran = run(command, Map.of(bad, end));
        String told = bad + " is " + end + ": ";
        Due.is(told + "it fails", ran.exit != 0, true);
        Due.is(told + "it says so", ran.said.contains("FAILED: "), true);
        for (String test : PLANTED) {
            if (!test.equals(bad) && !(end == End.NO_JAVA && bad.startsWith("main"))) {
                Due.is(told + "runs of " + test, ran.timesRun(test), 1);
            }
        }
    }

    private static Ran run(String command, Map<String, End> ends) throws Exception {
        try (Scratch scratch = new Scratch()) {
            scratch.write("main/" + CLASS, Files.readString(Path.of(CLASS)));
            scratch.write("main/" + SCRIPT, Files.readString(Path.of(SCRIPT))).toFile().setExecutable(true);
            Files.createDirectories(scratch.folder.resolve("shared/tests"));
            for (String test : PLANTED) {
                End end = ends.getOrDefault(test, End.GOOD);
                if (end != End.NOT_THERE) {
                    scratch.write(test, planted(nameOf(test), end));
                }
            }
            Process process = new ProcessBuilder(command.split(" ")).redirectErrorStream(true)
                    .directory(scratch.folder.resolve("main").toFile()).start();
            String said = new String(process.getInputStream().readAllBytes(), StandardCharsets.UTF_8);
            return new Ran(process.waitFor(), said);
        }
    }

    private static String nameOf(String test) {
        return test.replaceAll(".*/|\\.java", "");
    }

    private static String planted(String name, End end) {
        String last = switch (end) {
            case WRONG -> "System.exit(1);";
            case THROWS -> "throw new IllegalStateException();";
            case NO_JAVA -> "this is none";
            default -> "";
        };
        return """
                public final class %s {
                    public static void main(String[] args) {
                        System.out.println("ran %s" + (new FleetShares().count(0) == 0 ? "" : " badly"));
                        %s
                    }
                }
                """.formatted(name, name, last);
    }
}
