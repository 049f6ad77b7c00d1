import java.nio.file.Files;
import java.nio.file.Path;
import java.util.ArrayList;
import java.util.LinkedHashMap;
import java.util.List;
import java.util.Map;
import java.util.regex.Matcher;
import java.util.regex.Pattern;

/**
 * Keeps the tests of boundary cases to the document: each test begins with the sentence that it is of, the sentence
 * must stand there, and no place of the document that names a boundary may be without a test.
 */
final class Edges {
    static final String TERMS = "Terms";
    static final String USE = "What it is";

    private static final Path DOCUMENT = Path.of("../shared/DOC.md");
    /** Words by which the document names what is too small, too large, empty, full, cut, alike, or refused. */
    private static final Pattern MARKS = Pattern.compile("\\bNONE\\b|-\\d+|\\bfalse\\b|\\d \\.\\. \\d|\\bat most\\b"
            + "|\\bat first\\b|\\bat least\\b|\\bcut\\b|\\bof several\\b|\\bof alike\\b|\\b[Nn]one\\b|\\bno such\\b"
            + "|\\bout of bounds\\b|\\bbelow\\b|\\babove\\b|\\bor more\\b|\\bor less\\b|\\bmore than\\b|\\b[Tt]he least\\b"
            + "|\\bgreatest\\b|\\bif\\b|\\btoo\\b|\\bahead\\b|\\bempty\\b|\\bnot\\b|\\bisn't\\b|\\bcan't\\b|\\bn 0\\b"
            + "|\\bboth\\b|\\bthere are\\b|\\bit is (so|that)\\b|\\bit is\\.|\\bheld\\b|\\bnobody\\b");
    private static final Map<String, List<String>> TESTED = new LinkedHashMap<>();

    private Edges() {
    }

    static void of(int promise, String sentence) {
        of("Promise " + promise, sentence);
    }

    static void of(String section, String sentence) {
        Due.under(section + ", \"" + sentence + "\": ");
        List<String> tested = TESTED.computeIfAbsent(section, s -> new ArrayList<>());
        Due.is("tests of it so far", tested.contains(sentence), false);
        tested.add(sentence);
    }

    /** When all tests have run. */
    static void compareWithDocument() throws Exception {
        Due.under("");
        for (int promise = 1; promise <= 51; promise++) {
            Due.is("promise " + promise + " has a test", TESTED.containsKey("Promise " + promise), true);
        }
        if (!Files.exists(DOCUMENT)) {
            System.out.println(DOCUMENT + " is not there: sentences are not compared with it");
            return;
        }
        for (Map.Entry<String, String> section : sections().entrySet()) {
            compare(section.getKey(), section.getValue());
        }
    }

    /** "Promise 5", without the colon and what follows it, and the text under that heading. */
    private static Map<String, String> sections() throws Exception {
        Map<String, String> sections = new LinkedHashMap<>();
        for (String part : Files.readString(DOCUMENT).split("(?m)^## ")) {
            String heading = part.lines().findFirst().orElse("").replaceAll(":.*", "");
            if (heading.matches(TERMS + "|" + USE + "|Promise \\d+")) {
                // Names of calls are no words of a sentence.
                sections.put(heading, part.substring(part.indexOf('\n')).replaceAll("`[^`\n]*`", ""));
            }
        }
        return sections;
    }

    private static void compare(String heading, String text) {
        boolean[] quoted = new boolean[text.length()];
        for (String sentence : TESTED.getOrDefault(heading, List.of())) {
            int from = text.indexOf(sentence);
            Due.is(heading + " has \"" + sentence + "\"", from >= 0, true);
            Due.is(heading + " has it once", from, text.lastIndexOf(sentence));
            for (int i = Math.max(from, 0); i < from + sentence.length(); i++) {
                quoted[i] = true;
            }
        }
        Matcher mark = MARKS.matcher(text);
        while (mark.find()) {
            String around = text.substring(Math.max(0, mark.start() - 40), Math.min(text.length(), mark.end() + 40));
            Due.is(heading + ", a test of '" + mark.group() + "' in \"" + around + "\"", quoted[mark.start()], true);
        }
    }
}
