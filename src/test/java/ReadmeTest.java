import java.lang.reflect.Modifier;
import java.net.URL;
import java.net.URLClassLoader;
import java.nio.file.Files;
import java.nio.file.Path;
import java.util.ArrayList;
import java.util.Arrays;
import java.util.List;
import java.util.Set;
import java.util.TreeSet;
import java.util.regex.Matcher;
import java.util.regex.Pattern;
import java.util.stream.Stream;
import javax.tools.ToolProvider;

/**
 * README.md: the calls that it shows are compiled as they stand there, and answer what stands behind them; its tables
 * tell every class and every test.
 */
public final class ReadmeTest {
    private static final int MOST_CALLS = 512;
    private static final String MADE = "FleetShares office = new FleetShares();";
    /** A call, perhaps kept in a variable, its answer, and perhaps a word on it. */
    private static final Pattern CALL = Pattern.compile(
            "((?:int|long|boolean) (\\w+) = )?(office\\.(\\w+)\\(([^()]*)\\)); +// (-?\\d+|true|false)(?:: (.+))?");
    private static final Pattern BYTES_OF = Pattern.compile("bytes of \"([^\"]+)\"");
    private static final Pattern FED = Pattern.compile("// \"([^\"]+)\".*");

    private final List<String> program = new ArrayList<>();
    private final List<String> calls = new ArrayList<>();
    private final List<String> due = new ArrayList<>();
    private final Set<String> shown = new TreeSet<>();
    private String fed = "";

    public static void main(String[] args) throws Exception {
        Readme readme = new Readme();
        ReadmeTest test = new ReadmeTest();
        test.readAll(readme.linesOf("java"));
        test.compareAnswers();
        test.everyCallIsShown();
        tables(readme);
        Due.is("the tests are run by", readme.testCommand(), "bash .ci/run");
        Due.is("it is told under its heading", readme.sectionUnder("Tests").contains(readme.testCommand()), true);
        Due.end("ReadmeTest");
    }

    private void readAll(List<String> lines) {
        for (String line : lines) {
            Matcher call = CALL.matcher(line);
            Matcher comment = FED.matcher(line);
            if (call.matches()) {
                readCall(call);
            } else if (comment.matches()) {
                fed = comment.group(1);
            } else {
                program.add(line);
                Due.is("a line that is no call", line, MADE);
            }
        }
    }

    private void readCall(Matcher call) {
        boolean kept = call.group(1) != null;
        if (kept) {
            program.add(call.group(1) + call.group(3) + ";");
        }
        expect(call.group(3), kept ? call.group(2) : call.group(3), call.group(6));
        shown.add(call.group(4));
        if (call.group(4).equals("feed")) {
            Due.is("bytes of " + call.group(3), bytesIn(call.group(5)).stripTrailing(), fed.stripTrailing());
        }
        Matcher bytes = BYTES_OF.matcher(call.group(7) == null ? "" : call.group(7));
        if (bytes.find()) {
            expectBytes(call.group(3), bytes.group(1));
        }
    }

    private void expect(String call, String expression, String answer) {
        program.add("answers.add(" + expression + ");");
        calls.add(call);
        due.add(answer);
    }

    /** Where README.md tells how many bytes a text has, it tells the text. */
    private void expectBytes(String call, String text) {
        Due.is("the length of \"" + text + "\"", due.get(due.size() - 1), String.valueOf(text.length()));
        for (int i = 0; i < text.length(); i++) {
            String one = call.replace("-1)", i + ")");
            expect(one, one, String.valueOf((int) text.charAt(i)));
        }
    }

    private static String bytesIn(String numbers) {
        StringBuilder text = new StringBuilder();
        for (String number : numbers.split(", ")) {
            int four = Integer.decode(number);
            for (int shift = 24; shift >= 0; shift -= 8) {
                text.append((char) (four >> shift & 255));
            }
        }
        return text.toString();
    }

    private void compareAnswers() throws Exception {
        Due.is("calls shown are at most " + MOST_CALLS, calls.size() <= MOST_CALLS, true);
        try (Scratch scratch = new Scratch()) {
            Path source = scratch.write("Shown.java", "public final class Shown {\n"
                    + "public static java.util.List<Object> all() {\n"
                    + "java.util.List<Object> answers = new java.util.ArrayList<>();\n"
                    + String.join("\n", program) + "\nreturn answers;\n}\n}\n");
            int failed = ToolProvider.getSystemJavaCompiler().run(null, null, null, "-d", scratch.folder.toString(),
                    "-cp", System.getProperty("java.class.path"), source.toString());
            Due.is("what README.md shows compiles", failed, 0);
            if (failed == 0) {
                compareWith(answersFrom(scratch.folder));
            }
        }
    }

    private static List<?> answersFrom(Path folder) throws Exception {
        try (URLClassLoader loader = new URLClassLoader(new URL[] {folder.toUri().toURL()})) {
            return (List<?>) loader.loadClass("Shown").getMethod("all").invoke(null);
        }
    }

    private void compareWith(List<?> answers) {
        Due.is("answers to what README.md shows", answers.size(), due.size());
        for (int i = 0; i < Math.min(answers.size(), due.size()); i++) {
            Due.is("README.md, call " + (i + 1) + ", " + calls.get(i), answers.get(i).toString(), due.get(i));
        }
    }

    private void everyCallIsShown() {
        Set<String> face = new TreeSet<>();
        Arrays.stream(FleetShares.class.getDeclaredMethods())
                .filter(m -> Modifier.isPublic(m.getModifiers())).forEach(m -> face.add(m.getName()));
        Due.is("calls that README.md shows", shown.toString(), face.toString());
    }

    private static void tables(Readme readme) throws Exception {
        Set<String> inside = new TreeSet<>();
        Arrays.stream(FleetShares.class.getDeclaredClasses()).forEach(c -> inside.add(c.getSimpleName()));
        Due.is("classes inside that README.md tells", readme.tableUnder("How it is built").toString(), inside.toString());
        Set<String> tests = new TreeSet<>();
        try (Stream<Path> files = Files.list(Path.of("src/test/java"))) {
            files.map(file -> file.getFileName().toString()).filter(name -> name.endsWith("Test.java"))
                    .forEach(name -> tests.add(name.replace(".java", "")));
        }
        Due.is("tests that README.md tells", readme.tableUnder("Tests").toString(), tests.toString());
    }
}
