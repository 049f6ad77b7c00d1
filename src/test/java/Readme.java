import java.nio.file.Files;
import java.nio.file.Path;
import java.util.ArrayList;
import java.util.List;
import java.util.Set;
import java.util.TreeSet;
import java.util.regex.Matcher;
import java.util.regex.Pattern;

/** What README.md shows, taken from its text. */
final class Readme {
    private final String text;

    Readme() throws Exception {
        text = Files.readString(Path.of("README.md"));
    }

    /** The lines of all blocks of a kind ("java", "sh"), in their order, without those that are empty. */
    List<String> linesOf(String kind) {
        List<String> lines = new ArrayList<>();
        Matcher block = Pattern.compile("(?ms)^```" + kind + "\n(.*?)^```$").matcher(text);
        while (block.find()) {
            block.group(1).lines().filter(line -> !line.isBlank()).forEach(lines::add);
        }
        return lines;
    }

    /** The names in the first column of the table under a heading. */
    Set<String> tableUnder(String heading) {
        Set<String> names = new TreeSet<>();
        Matcher row = Pattern.compile("(?m)^\\| `(\\w+)` \\|").matcher(sectionUnder(heading));
        while (row.find()) {
            Due.is("README.md tells " + row.group(1) + " once", names.add(row.group(1)), true);
        }
        return names;
    }

    String sectionUnder(String heading) {
        Matcher section = Pattern.compile("(?ms)^## " + heading + "\n(.*?)(?=^## |\\z)").matcher(text);
        return section.find() ? section.group(1) : "";
    }

    /** The command for the tests: the one line of the one block of its kind. */
    String testCommand() {
        List<String> lines = linesOf("sh");
        Due.is("commands that README.md names", lines.size(), 1);
        return lines.isEmpty() ? "" : lines.get(0);
    }
}
