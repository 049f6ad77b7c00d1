import java.lang.management.ManagementFactory;
import java.lang.reflect.Constructor;
import java.lang.reflect.Field;
import java.lang.reflect.Method;
import java.lang.reflect.Modifier;
import java.nio.file.Files;
import java.nio.file.Path;
import java.util.Arrays;
import java.util.List;
import java.util.Set;
import java.util.TreeSet;
import java.util.regex.Pattern;

/** The face as the document tells it, and the rules of LANGUAGE.md that can be looked at from outside. */
public final class LanguageTest {
    private static final String SOURCE = "src/main/java/FleetShares.java";
    private static final String FACE = """
            int feed(int a, int b, int c, int d, int e);
            int back(int n);
            int text();
            int fleet(int cls, int years);
            boolean leave(int fleet);
            int move(int fleet, int cls);
            int insure(int fleet, int year);
            int lapse(int fleet, int year);
            int forget(int year);
            int claim(int fleet, int year, int amount);
            boolean waive(int claim);
            int amend(int claim, int amount);
            int join(int cls, int other);
            boolean swap(int fleet, int other);
            int scale(int fleet, int percent);
            int split(int fleet, int years);
            int merge(int fleet, int other);
            int cap(int v);
            int steady(int v);
            int undo();
            int of(int fleet, int what);
            int loss(int fleet, int year);
            int claimOf(int claim, int what);
            int group(int cls, int what);
            long spread(int cls, int what, boolean lower);
            long whole(boolean lower);
            long rate(int fleet, boolean lower);
            int thousandths(int fleet);
            int ranked(int k);
            int greatest(int fleet, int k);
            int worst(int year);
            int dearestOf(int cls);
            int claimsIn(int year);
            int gap(int fleet, int other);
            int premium(int fleet, int months);
            int shareBy(int fleet, int n);
            int yearsFor(int fleet, int share);
            int inClass(int fleet, int cls);
            int bestClass(int fleet);
            int byCap(int fleet, int cap);
            int capFor(int fleet);
            int early(int fleet, int year);
            int earlyShare(int fleet, int year);
            int withoutFleet(int fleet, int other);
            long joined(int cls, int other, int what, boolean lower);
            int withoutClaim(int fleet, int claim);
            int dearest();
            int report(int fleet, int i);
            int spell(int i);
            int count(int what);
            """;

    public static void main(String[] args) throws Exception {
        faceAsInTheDocument();
        face();
        membersAreHidden();
        wordsOfTheSource();
        shapesOfTheSource();
        callsMakeNothing();
        Due.end("LanguageTest");
    }

    /** Without the document, as outside of this workplace, what is written down above must do. */
    private static void faceAsInTheDocument() throws Exception {
        Path document = Path.of("../shared/DOC.md");
        if (!Files.exists(document)) {
            System.out.println(document + " is not there: the face is not compared with it");
            return;
        }
        List<String> told = Files.readString(document).lines().filter(line -> line.startsWith("    public ")).toList();
        String rest = "    public static final int NONE = -1;\n    public FleetShares();\n";
        Due.is("the face in the document", String.join("\n", told) + "\n",
                rest + FACE.replaceAll("(?m)^(?=.)", "    public "));
    }

    private static void face() throws Exception {
        Set<String> want = new TreeSet<>();
        for (String line : FACE.lines().toList()) {
            want.add(line.replaceAll("(int|boolean|long) [a-z]+([,)])", "$1$2").replace(";", "").replace(", ", ","));
        }
        Set<String> got = new TreeSet<>();
        for (Method m : FleetShares.class.getDeclaredMethods()) {
            if (!Modifier.isPrivate(m.getModifiers())) {
                String types = String.join(",", Arrays.stream(m.getParameterTypes()).map(Class::getName).toList());
                got.add(m.getReturnType() + " " + m.getName() + "(" + types + ")");
                Due.is(m.getName() + " is public alone", m.getModifiers(), Modifier.PUBLIC);
            }
        }
        Due.is("the face's methods", got.toString(), want.toString());
        Due.is("the class", FleetShares.class.getModifiers(), Modifier.PUBLIC | Modifier.FINAL);
        Constructor<?>[] made = FleetShares.class.getDeclaredConstructors();
        Due.is("constructors", made.length, 1);
        Due.is("the constructor", made[0].getModifiers(), Modifier.PUBLIC);
        Due.is("NONE", FleetShares.class.getField("NONE").getInt(null), -1);
    }

    private static void membersAreHidden() {
        Set<String> open = new TreeSet<>();
        for (Field f : FleetShares.class.getDeclaredFields()) {
            if (!Modifier.isPrivate(f.getModifiers())) {
                open.add(f.getName());
            }
        }
        Due.is("fields that are not private", open.toString(), "[NONE]");
        Set<String> publicNames = new TreeSet<>();
        for (Method m : FleetShares.class.getMethods()) {
            publicNames.add(m.getName());
        }
        for (Method m : FleetShares.class.getDeclaredMethods()) {
            if (Modifier.isPrivate(m.getModifiers())) {
                Due.is(m.getName() + " bears a public one's name", publicNames.contains(m.getName()), false);
            }
        }
        Class<?>[] inside = FleetShares.class.getDeclaredClasses();
        Due.is("at most twelve classes", inside.length < 12, true);
        for (Class<?> c : inside) {
            Due.is(c.getName() + " is static", Modifier.isStatic(c.getModifiers()), true);
            Due.is(c.getName() + " is not public", Modifier.isPublic(c.getModifiers()), false);
            long fields = Arrays.stream(c.getDeclaredFields()).filter(f -> !Modifier.isStatic(f.getModifiers())).count();
            Due.is(c.getName() + " has at most twenty fields", fields <= 20, true);
            for (Method m : c.getDeclaredMethods()) {
                Due.is(m.getName() + " bears a public one's name", publicNames.contains(m.getName()), false);
            }
        }
    }

    private static String source() throws Exception {
        return Files.readString(Path.of(SOURCE)).replaceAll("(?s)/\\*.*?\\*/", "").replaceAll("//[^\n]*", "");
    }

    private static void wordsOfTheSource() throws Exception {
        String code = source();
        List<String> ruledOut = List.of("\\bthrow\\b", "\\bthrows\\b", "\\btry\\b", "\\bcatch\\b", "\\bsynchronized\\b",
                "\\bassert\\b", "->", "::", "Exact\\b", "\\bstatic\\s*\\{", "\\bpackage\\b", "\\bvar\\b", "\\bObject\\b",
                "@", "\\bSystem\\.(?!arraycopy)", "\\bvolatile\\b", "\\bnative\\b", "\\bprotected\\b", "[^\\x09-\\x7e]",
                "\\bStringBuilder\\b", "\\bdouble\\b", "\\bfloat\\b", "\" \\+|\\+ \"");
        for (String word : ruledOut) {
            Due.is("'" + word + "' stands in the class", Pattern.compile(word).matcher(code).find(), false);
        }
        Due.is("imports", code.lines().filter(l -> l.startsWith("import")).toList().toString(),
                "[import java.util.Arrays;]");
    }

    private static void shapesOfTheSource() throws Exception {
        String open = null;
        int lines = 0;
        for (String line : source().lines().toList()) {
            if (open == null && line.matches(" {4}( {4})?[A-Za-z].*\\).*\\{") && !line.contains(" class ")) {
                open = line;
                lines = 0;
            }
            lines++;
            if (open != null && line.matches(" {4}( {4})?}")) {
                Due.is(open + " is short", lines <= 60, true);
                Due.is(open + " has at most seven parameters", open.chars().filter(c -> c == ',').count() < 7, true);
                open = null;
            }
        }
        Due.is("every method was looked at", open == null, true);
    }

    /** The room of a run is small: after an object has been made, no call makes another one. */
    private static void callsMakeNothing() {
        com.sun.management.ThreadMXBean threads =
                (com.sun.management.ThreadMXBean) ManagementFactory.getThreadMXBean();
        for (int i = 0; i < 30; i++) {
            callAll(new FleetShares());
        }
        FleetShares x = new FleetShares();
        long had = threads.getCurrentThreadAllocatedBytes();
        long beside = threads.getCurrentThreadAllocatedBytes() - had;
        had = threads.getCurrentThreadAllocatedBytes();
        callAll(x);
        long made = threads.getCurrentThreadAllocatedBytes() - had;
        Due.is("bytes that calls made", made - beside, 0);
    }

    private static long callAll(FleetShares x) {
        // "fleet 0 0 1;" and blanks
        long all = x.feed(0x666c6565, 0x74203020, 0x3020313b, 0x20202020, 0x20202020) + x.back(0) + x.text();
        all += x.fleet(0, 7) + x.fleet(1, 3) + x.fleet(0, 24) + x.claim(0, 0, 5) + x.claim(1, 1, 60) + x.claim(2, 0, 9);
        all += x.move(2, 0) + x.insure(2, 4) + x.lapse(2, 4) + x.amend(0, 7) + x.join(0, 1) + x.scale(1, 50);
        all += x.split(1, 1) + x.merge(4, 1) + x.cap(40) + x.steady(9) + (x.swap(0, 1) ? 1 : 0) + x.undo();
        for (int i = -1; i < 9; i++) {
            all += x.of(0, i) + x.loss(1, i) + x.claimOf(0, i) + x.group(1, i) + x.spread(1, i, true) + x.count(i);
            all += x.ranked(i) + x.greatest(1, i) + x.worst(i) + x.dearestOf(i) + x.claimsIn(i) + x.rate(i, false);
            all += x.premium(0, i) + x.shareBy(0, i) + x.yearsFor(0, 300) + x.inClass(0, i) + x.byCap(0, i);
            all += x.early(0, i) + x.earlyShare(0, i) + x.withoutFleet(0, i) + x.joined(1, 0, i, false) + x.report(0, i);
            all += x.withoutClaim(0, i) + x.gap(0, i) + x.spell(i) + x.thousandths(i) + x.bestClass(i) + x.capFor(i);
        }
        all += x.dearest() + x.whole(true) + x.forget(1) + (x.waive(0) ? 1 : 0) + (x.leave(0) ? 1 : 0);
        return all;
    }
}
