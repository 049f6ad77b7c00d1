import java.util.Arrays;

/** Boundary cases of promises 5 to 21: when an act is refused, and what it does at its limits. */
final class ActsEdges {
    private static final String EIGHT = "fleet 1 0 1;".repeat(8);
    private static final String BUSY = "fleet 0 0 1;fleet 1 1 2;fleet 2 0 4;"
            + "claim 0 0 10;claim 1 1 20;claim 2 4 30;claim 0 1 40;claim 1 2 50;claim 2 0 60;";

    /** Eight fleets, of which the last one has the last of forty claims. */
    private static final String FULL = TermsEdges.FORTY.replace("claim 1 4 7;", "")
            + "fleet 0;fleet 1;fleet 2;fleet 0;fleet 2 4;" + "claim 7 4 99;".repeat(4);

    private ActsEdges() {
    }

    static void runAll() {
        fleet();
        leave();
        move();
        insure();
        lapse();
        forget();
        claim();
        waive();
        amend();
        join();
        swap();
        scale();
        split();
        merge();
        cap();
        steady();
        undo();
    }

    /** An office with one act that can be undone, so that another one would be seen. */
    private static Office busy(String text) {
        Office o = Office.of(text);
        o.due("steady(6)", 5);
        return o;
    }

    private static void fleet() {
        Edges.of(5, "INSURED in a set of YEARS (bits, 0 .. 31)");
        Office o = Office.empty();
        o.due("fleet(0, 0)", 0);
        o.due("fleet(0, 1)", 1);
        o.due("fleet(0, 16)", 2);
        o.due("fleet(0, 31)", 3);
        o.dueHeld("fleet 0;fleet 0 0;fleet 0 4;fleet 0 0 1 2 3 4;");

        Edges.of(5, "NONE, and nothing happens: out of bounds");
        o = busy("fleet 0;");
        o.refuses("fleet(-1, 0)", "fleet(3, 0)", "fleet(min, 0)", "fleet(max, 0)");
        o.refuses("fleet(0, -1)", "fleet(0, 32)", "fleet(0, min)", "fleet(0, max)", "fleet(-1, -1)");

        Edges.of(5, "there are eight.");
        o = busy(EIGHT);
        o.refuses("fleet(0, 0)", "fleet(2, 31)");
        o.due("leave(7)", 1);
        o.due("fleet(2, 31)", 7);
        o.refuses("fleet(2, 31)");
    }

    private static void leave() {
        Edges.of(6, "A FLEET goes, with its CLAIMS (numbers above are less by as many as went ahead)");
        Office o = Office.of(BUSY);
        o.due("leave(0)", 1);
        o.dueHeld("fleet 1 1 2;fleet 2 0 4;claim 0 1 20;claim 1 4 30;claim 0 2 50;claim 1 0 60;");
        o = Office.of(BUSY);
        o.due("leave(1)", 1);
        o.dueHeld("fleet 0 0 1;fleet 2 0 4;claim 0 0 10;claim 1 4 30;claim 0 1 40;claim 1 0 60;");
        o = Office.of(BUSY);
        o.due("leave(2)", 1);
        o.dueHeld("fleet 0 0 1;fleet 1 1 2;claim 0 0 10;claim 1 1 20;claim 0 1 40;claim 1 2 50;");
        o.due("leave(0)", 1);
        o.due("leave(0)", 1);
        o.dueHeld("");
        o = Office.of(EIGHT + "claim 7 0 5;claim 0 1 6;");
        o.due("leave(0)", 1);
        o.dueHeld("fleet 1 0 1;".repeat(7) + "claim 6 0 5;");

        Edges.of(6, "false: there is none such.");
        o = busy(BUSY);
        o.refuses("leave(3)", "leave(-1)", "leave(8)", "leave(min)", "leave(max)");
        Office.empty().refuses("leave(0)");
        busy(EIGHT).refuses("leave(8)");
    }

    private static void move() {
        Edges.of(7, "NONE: no such ones");
        Office o = busy("fleet 0 0;fleet 2 1;");
        o.refuses("move(2, 0)", "move(-1, 0)", "move(min, 0)", "move(max, 0)");
        o.refuses("move(0, 3)", "move(0, -1)", "move(0, min)", "move(0, max)");
        o.due("move(0, 2)", 0);
        o.due("move(1, 0)", 2);
        o.dueHeld("fleet 2 0;fleet 0 1;");

        Edges.of(7, "it is that.");
        o = busy("fleet 0 0;fleet 1 0;fleet 2 1;");
        o.refuses("move(0, 0)", "move(1, 1)", "move(2, 2)");
    }

    private static void insure() {
        Edges.of(8, "A FLEET is INSURED in a YEAR, too: n then");
        Office o = Office.of("fleet 0;fleet 1 2;");
        for (int year = 0; year < 5; year++) {
            o.due("insure(0, " + year + ")", year + 1);
        }
        o.dueHeld("fleet 0 0 1 2 3 4;fleet 1 2;");

        Edges.of(8, "NONE: no such ones");
        o = busy("fleet 0 1;");
        o.refuses("insure(1, 0)", "insure(-1, 0)", "insure(min, 0)", "insure(max, 0)");
        // A year of 32 or -32 would be year 0, were it shifted unseen.
        o.refuses("insure(0, 5)", "insure(0, -1)", "insure(0, 32)", "insure(0, -32)", "insure(0, min)", "insure(0, max)");

        Edges.of(8, "it is.");
        o = busy("fleet 0 0 4;");
        o.refuses("insure(0, 0)", "insure(0, 4)");
    }

    private static void lapse() {
        Edges.of(9, "A FLEET is not INSURED in a YEAR any more; its CLAIMS of that YEAR go: how many");
        String others = "claim 0 1 5;claim 1 0 6;";
        Office o = Office.of("fleet 0 0 1 4;fleet 1 0;" + others + "claim 0 0 1;claim 0 0 2;claim 0 0 3;claim 0 0 4;");
        o.due("lapse(0, 4)", 0);
        o.due("lapse(0, 0)", 4);
        o.dueHeld("fleet 0 1;fleet 1 0;" + others);
        o.due("lapse(0, 1)", 1);
        o.dueHeld("fleet 0;fleet 1 0;claim 1 0 6;");

        Edges.of(9, "NONE, and nothing happens: no such ones");
        o = busy("fleet 0 0 4;claim 0 0 5;");
        o.refuses("lapse(1, 0)", "lapse(-1, 0)", "lapse(min, 0)", "lapse(max, 0)");
        o.refuses("lapse(0, 5)", "lapse(0, -1)", "lapse(0, 32)", "lapse(0, -32)", "lapse(0, min)", "lapse(0, max)");

        Edges.of(9, "it isn't.");
        o = busy("fleet 0 0 4;fleet 1 1;fleet 2;claim 0 0 5;claim 1 1 5;");
        o.refuses("lapse(0, 1)", "lapse(1, 0)", "lapse(2, 0)");
        o.due("lapse(0, 0)", 1);
        o.refuses("lapse(0, 0)");
    }

    private static void forget() {
        Edges.of(10, "No FLEET is INSURED in a YEAR any more; all CLAIMS of that YEAR go: how many FLEETS were");
        Office o = Office.of("fleet 0 0;fleet 1 0 4;fleet 2;claim 0 0 5;claim 1 4 6;claim 1 0 7;");
        o.due("forget(4)", 1);
        o.dueHeld("fleet 0 0;fleet 1 0;fleet 2;claim 0 0 5;claim 1 0 7;");
        o.due("forget(0)", 2);
        o.dueHeld("fleet 0;fleet 1;fleet 2;");
        o = Office.of(EIGHT + "claim 7 1 5;");
        o.due("forget(1)", 8);
        o.dueHeld("fleet 1 0;".repeat(8));

        Edges.of(10, "NONE, and nothing happens: no such YEAR");
        o = busy("fleet 0 0 1 2 3 4;claim 0 0 5;");
        o.refuses("forget(-1)", "forget(5)", "forget(32)", "forget(-32)", "forget(min)", "forget(max)");

        Edges.of(10, "none was.");
        o = busy("fleet 0 0;fleet 1 2;fleet 2;");
        o.refuses("forget(1)", "forget(3)", "forget(4)");
        Office.empty().refuses("forget(0)");
    }

    private static void claim() {
        Edges.of(11, "NONE, and nothing happens: no such FLEET");
        Office o = busy("fleet 0 0;fleet 1 0;");
        o.refuses("claim(2, 0, 5)", "claim(-1, 0, 5)", "claim(min, 0, 5)", "claim(max, 0, 5)");
        o.due("claim(1, 0, 5)", 0);

        Edges.of(11, "it isn't INSURED in that YEAR");
        o = busy("fleet 0 0 3;fleet 1 1;");
        o.refuses("claim(0, 1, 5)", "claim(1, 0, 5)", "claim(0, 4, 5)", "claim(0, 2, 5)");
        o.refuses("claim(0, 5, 5)", "claim(0, -1, 5)", "claim(0, 32, 5)", "claim(0, -32, 5)", "claim(0, min, 5)",
                "claim(0, max, 5)");
        o.due("claim(0, 3, 5)", 0);

        Edges.of(11, "AMOUNT out of bounds");
        o = busy("fleet 0 0;");
        o.refuses("claim(0, 0, 0)", "claim(0, 0, 100)", "claim(0, 0, -1)", "claim(0, 0, min)", "claim(0, 0, max)");
        o.due("claim(0, 0, 1)", 0);
        o.due("claim(0, 0, 99)", 1);

        Edges.of(11, "there are 40");
        o = busy(TermsEdges.FORTY);
        o.refuses("claim(2, 0, 5)");
        o.due("waive(0)", 1);
        o.due("claim(2, 0, 5)", 39);
        o.due("claim(2, 0, 5)", -1);
        o.due("count(1)", 40);

        Edges.of(11, "or four of that FLEET and YEAR.");
        o = busy("fleet 0 0 1;fleet 1 0;claim 0 0 1;claim 0 0 2;claim 0 0 3;");
        o.due("claim(0, 0, 4)", 3);
        o.refuses("claim(0, 0, 5)");
        o.due("claim(0, 1, 5)", 4);
        o.due("claim(1, 0, 5)", 5);
        o.due("waive(2)", 1);
        o.due("claim(0, 0, 5)", 5);
        o.refuses("claim(0, 0, 5)");
    }

    private static void waive() {
        Edges.of(12, "A CLAIM goes (numbers above it are one less)");
        String two = "fleet 0 0;fleet 1 1;";
        Office o = Office.of(two + "claim 0 0 1;claim 1 1 2;claim 0 0 3;");
        o.due("waive(0)", 1);
        o.dueHeld(two + "claim 1 1 2;claim 0 0 3;");
        o.due("waive(1)", 1);
        o.dueHeld(two + "claim 1 1 2;");
        o.due("waive(0)", 1);
        o.dueHeld(two);
        o = Office.of(TermsEdges.FORTY);
        o.due("amend(39, 9)", 7);
        o.due("waive(0)", 1);
        o.due("claimOf(38, 2)", 9);
        o.due("waive(38)", 1);
        o.due("count(1)", 38);
        o.due("claimOf(37, 2)", 7);

        Edges.of(12, "false: there is none such.");
        o = busy(two + "claim 0 0 1;claim 1 1 2;");
        o.refuses("waive(2)", "waive(-1)", "waive(40)", "waive(min)", "waive(max)");
        busy(two).refuses("waive(0)");
        Office.of(TermsEdges.FORTY).refuses("waive(40)");
    }

    private static void amend() {
        String text = "fleet 0 0;claim 0 0 5;claim 0 0 99;";
        Edges.of(13, "NONE: no such one");
        Office o = busy(text);
        o.refuses("amend(2, 7)", "amend(-1, 7)", "amend(40, 7)", "amend(min, 7)", "amend(max, 7)");
        Office.empty().refuses("amend(0, 7)");

        Edges.of(13, "out of bounds");
        o = busy(text);
        o.refuses("amend(0, 0)", "amend(0, 100)", "amend(0, -1)", "amend(0, min)", "amend(0, max)");
        o.due("amend(0, 99)", 5);
        o.due("amend(1, 1)", 99);
        o.dueHeld("fleet 0 0;claim 0 0 99;claim 0 0 1;");

        Edges.of(13, "it is so.");
        o = busy(text);
        o.refuses("amend(0, 5)", "amend(1, 99)");
    }

    private static void join() {
        Edges.of(14, "All FLEETS of a CLASS come to another one: how many");
        Office o = Office.of(EIGHT);
        o.due("join(1, 2)", 8);
        o.dueHeld("fleet 2 0 1;".repeat(8));
        o = Office.of("fleet 0 0;fleet 1;fleet 2 0;fleet 0;");
        o.due("join(1, 0)", 1);
        o.dueHeld("fleet 0 0;fleet 0;fleet 2 0;fleet 0;");

        Edges.of(14, "NONE, and nothing happens: no such ones");
        o = busy("fleet 0 0;fleet 1 0;fleet 2 0;");
        o.refuses("join(3, 0)", "join(-1, 0)", "join(min, 0)", "join(max, 0)");
        o.refuses("join(0, 3)", "join(0, -1)", "join(0, min)", "join(0, max)");

        Edges.of(14, "both are one");
        o = busy("fleet 0 0;fleet 1 0;fleet 2 0;");
        o.refuses("join(0, 0)", "join(1, 1)", "join(2, 2)");

        Edges.of(14, "there are none.");
        o = busy("fleet 0 0;fleet 0;");
        o.refuses("join(1, 0)", "join(2, 0)", "join(2, 1)");
        Office.empty().refuses("join(0, 1)");
    }

    private static void swap() {
        Edges.of(15, "Two FLEETS change numbers (their CLAIMS go with them, in their places)");
        Office o = Office.of(BUSY);
        o.due("swap(2, 0)", 1);
        o.dueHeld("fleet 2 0 4;fleet 1 1 2;fleet 0 0 1;"
                + "claim 2 0 10;claim 1 1 20;claim 0 4 30;claim 2 1 40;claim 1 2 50;claim 0 0 60;");
        o = Office.of("fleet 0;" + EIGHT.substring(12) + "claim 7 1 5;");
        o.due("swap(0, 7)", 1);
        o.dueHeld(EIGHT.substring(12) + "fleet 0;claim 0 1 5;");

        Edges.of(15, "false: no such ones");
        o = busy(BUSY);
        o.refuses("swap(3, 0)", "swap(-1, 0)", "swap(min, 0)", "swap(max, 0)");
        o.refuses("swap(0, 3)", "swap(0, -1)", "swap(0, min)", "swap(0, max)");

        Edges.of(15, "both are one.");
        o = busy(BUSY);
        o.refuses("swap(0, 0)", "swap(1, 1)", "swap(2, 2)");
    }

    private static void scale() {
        Edges.of(16, "AMOUNTS of all CLAIMS of a FLEET become so many hundredths (1 .. 900), cut");
        Office o = Office.of("fleet 0 0 1;fleet 1 0;claim 0 0 3;claim 1 0 50;claim 0 1 9;");
        o.due("scale(0, 50)", 2);
        o.dueHeld("fleet 0 0 1;fleet 1 0;claim 0 0 1;claim 1 0 50;claim 0 1 4;");
        o.due("scale(0, 900)", 2);
        o.dueHeld("fleet 0 0 1;fleet 1 0;claim 0 0 9;claim 1 0 50;claim 0 1 36;");
        o.due("scale(0, 199)", 2);
        o.dueHeld("fleet 0 0 1;fleet 1 0;claim 0 0 17;claim 1 0 50;claim 0 1 71;");
        o.due("scale(1, 1)", 1);
        o.dueHeld("fleet 0 0 1;fleet 1 0;claim 0 0 17;claim 1 0 1;claim 0 1 71;");

        Edges.of(16, "held to 1 .. 99");
        o = Office.of("fleet 0 0 1;claim 0 0 11;claim 0 0 12;claim 0 0 10;claim 0 1 98;");
        o.due("scale(0, 900)", 4);
        o.dueHeld("fleet 0 0 1;claim 0 0 99;claim 0 0 99;claim 0 0 90;claim 0 1 99;");
        o.due("scale(0, 1)", 4);
        o.dueHeld("fleet 0 0 1;claim 0 0 1;claim 0 0 1;claim 0 0 1;claim 0 1 1;");
        o = Office.of("fleet 0 0;claim 0 0 99;claim 0 0 50;claim 0 0 49;");
        o.due("scale(0, 2)", 3);
        o.dueHeld("fleet 0 0;claim 0 0 1;claim 0 0 1;claim 0 0 1;");

        Edges.of(16, "how many changed");
        o = Office.of("fleet 0 0 1;claim 0 0 1;claim 0 0 99;claim 0 1 2;");
        o.due("scale(0, 150)", 1);
        o.dueHeld("fleet 0 0 1;claim 0 0 1;claim 0 0 99;claim 0 1 3;");
        // What other acts have done in between stays.
        o.due("waive(0)", 1);
        o.due("cap(7)", 99);
        o.due("scale(0, 50)", 2);
        o.dueHeld("fleet 0 0 1;claim 0 0 49;claim 0 1 1;");
        o.due("count(2)", 7);

        Edges.of(16, "NONE, and nothing happens: no such FLEET");
        o = busy(BUSY);
        o.refuses("scale(3, 50)", "scale(-1, 50)", "scale(min, 50)", "scale(max, 50)");

        Edges.of(16, "out of bounds");
        o = busy(BUSY);
        o.refuses("scale(0, 0)", "scale(0, 901)", "scale(0, -1)", "scale(0, min)", "scale(0, max)");

        Edges.of(16, "none would.");
        o = busy("fleet 0 0;fleet 1 0;fleet 2 0;claim 0 0 1;claim 0 0 99;claim 1 0 50;");
        o.refuses("scale(0, 100)", "scale(1, 101)", "scale(0, 101)", "scale(2, 50)", "scale(2, 900)");
    }

    private static void split() {
        Edges.of(17, "A FLEET's YEARS of a set (bits; some of them, not all, that it has)");
        String text = "fleet 0 0 2 4;fleet 1 1;";
        Office o = busy(text);
        // None of them, all, all and one more, one that it hasn't, one that it has and one that it hasn't.
        o.refuses("split(0, 0)", "split(0, 21)", "split(0, 31)", "split(0, 2)", "split(0, 3)");
        o.refuses("split(0, 32)", "split(0, 33)", "split(0, -1)", "split(0, min)", "split(0, max)");
        o.due("split(0, 20)", 2);
        o.dueHeld("fleet 0 0;fleet 1 1;fleet 0 2 4;");
        o.due("split(2, 4)", 3);
        o.dueHeld("fleet 0 0;fleet 1 1;fleet 0 4;fleet 0 2;");

        Edges.of(17, "are those of a new FLEET of its CLASS behind all, with its CLAIMS of these (in their places)");
        String seven = "fleet 2 0 1;" + "fleet 0 0;".repeat(6);
        o = Office.of(seven + "claim 0 0 1;claim 0 1 2;claim 1 0 3;claim 0 0 4;");
        o.due("split(0, 1)", 7);
        o.dueHeld("fleet 2 1;" + "fleet 0 0;".repeat(6) + "fleet 2 0;claim 7 0 1;claim 0 1 2;claim 1 0 3;claim 7 0 4;");

        Edges.of(17, "NONE, and nothing happens: no such FLEET, set");
        o = busy("fleet 0 0 1;fleet 1 1;fleet 2;");
        o.refuses("split(3, 1)", "split(-1, 1)", "split(min, 1)", "split(max, 1)");
        o.refuses("split(0, 0)", "split(0, 3)", "split(0, 4)", "split(1, 2)", "split(2, 0)", "split(2, 1)");

        Edges.of(17, "there are eight.");
        o = busy(EIGHT);
        o.refuses("split(0, 1)", "split(7, 2)");
        o.due("leave(0)", 1);
        o.due("split(0, 1)", 7);
        o.refuses("split(1, 1)");
    }

    private static void merge() {
        Edges.of(18, "A FLEET goes, its YEARS and CLAIMS are another one's (numbers above it are one less)");
        String text = "fleet 0 0;fleet 1 1;fleet 2 2;claim 2 2 1;claim 1 1 2;claim 0 0 3;";
        Office o = Office.of(text);
        o.due("merge(0, 1)", 0);
        o.dueHeld("fleet 1 0 1;fleet 2 2;claim 1 2 1;claim 0 1 2;claim 0 0 3;");
        o = Office.of(text);
        o.due("merge(2, 0)", 0);
        o.dueHeld("fleet 0 0 2;fleet 1 1;claim 0 2 1;claim 1 1 2;claim 0 0 3;");
        o = Office.of(text);
        o.due("merge(0, 2)", 1);
        o.dueHeld("fleet 1 1;fleet 2 0 2;claim 1 2 1;claim 0 1 2;claim 1 0 3;");
        o = Office.of("fleet 0;fleet 1 0 1 2 3 4;claim 1 4 5;claim 1 0 6;");
        o.due("merge(1, 0)", 0);
        o.dueHeld("fleet 0 0 1 2 3 4;claim 0 4 5;claim 0 0 6;");

        Edges.of(18, "the other one's number then");
        o = Office.of("fleet 0;".repeat(8));
        o.due("merge(0, 7)", 6);
        o.due("merge(6, 0)", 0);
        o.due("merge(4, 5)", 4);
        o.due("merge(1, 0)", 0);
        o.due("count(0)", 4);

        Edges.of(18, "NONE, and nothing happens: no such ones");
        o = busy(text);
        o.refuses("merge(3, 0)", "merge(-1, 0)", "merge(min, 0)", "merge(max, 0)");
        o.refuses("merge(0, 3)", "merge(0, -1)", "merge(0, min)", "merge(0, max)");

        Edges.of(18, "both are one");
        o = busy("fleet 0 0;fleet 1;");
        o.refuses("merge(0, 0)", "merge(1, 1)");

        Edges.of(18, "both are INSURED in some YEAR.");
        o = busy("fleet 0 0 1;fleet 1 1 2;fleet 2 0 4;fleet 0 3 4;");
        o.refuses("merge(0, 1)", "merge(1, 0)", "merge(0, 2)", "merge(2, 3)", "merge(3, 2)");
        o.due("merge(1, 2)", 1);
    }

    private static void cap() {
        Edges.of(19, "NONE: out of bounds");
        Office o = busy("cap 50;");
        o.refuses("cap(0)", "cap(100)", "cap(-1)", "cap(min)", "cap(max)");
        o.due("cap(1)", 50);
        o.due("cap(99)", 1);

        Edges.of(19, "it is so.");
        o = busy("cap 50;");
        o.refuses("cap(50)");
        busy("").refuses("cap(99)");
        busy("cap 1;").refuses("cap(1)");
    }

    private static void steady() {
        Edges.of(20, "NONE: out of bounds");
        Office o = Office.of("cap 50;");
        o.due("cap(51)", 50);
        o.refuses("steady(-1)", "steady(51)", "steady(min)", "steady(max)");
        o.due("steady(0)", 5);
        o.due("steady(50)", 0);

        Edges.of(20, "it is so.");
        o = Office.empty();
        o.due("cap(51)", 99);
        o.refuses("steady(5)");
        o.due("steady(0)", 5);
        o.refuses("steady(0)");
    }

    private static void dueTakenBack(String text, String... acts) {
        Office o = Office.of(text);
        String had = o.state();
        for (String act : acts) {
            Due.is(act + " is not refused", o.ask(act) >= 0, true);
        }
        for (int more = acts.length - 1; more >= 0; more--) {
            o.due("undo()", more);
        }
        Due.is("all when " + Arrays.toString(acts) + " are taken back", o.state(), had);
    }

    private static void undo() {
        Edges.of(21, "The latest ACT is taken back: how many more can be");
        Office o = Office.of(BUSY);
        o.due("leave(0)", 1);
        o.due("forget(4)", 1);
        o.due("undo()", 1);
        o.dueHeld("fleet 1 1 2;fleet 2 0 4;claim 0 1 20;claim 1 4 30;claim 0 2 50;claim 1 0 60;");
        o.due("undo()", 0);
        o.dueHeld(BUSY);
        String[] acts = {"fleet(1, 24)", "leave(1)", "move(0, 2)", "insure(0, 4)", "lapse(0, 0)", "forget(1)",
            "claim(0, 0, 9)", "waive(0)", "amend(0, 9)", "join(0, 1)", "swap(0, 2)", "scale(0, 50)", "split(0, 1)",
            "merge(1, 2)", "cap(7)", "steady(7)"};
        for (String act : acts) {
            dueTakenBack(BUSY, act);
        }
        dueTakenBack(FULL, "leave(7)", "fleet(1, 3)", "claim(7, 1, 5)");
        dueTakenBack(FULL, "waive(39)", "claim(2, 0, 5)", "scale(0, 1)", "forget(0)");
        // Taking back is no act, and what comes behind it can be taken back again.
        o.due("count(4)", 0);
        o.due("cap(7)", 99);
        o.due("undo()", 0);
        o.due("count(2)", 99);

        Edges.of(21, "NONE: none can.");
        Office.empty().refuses("undo()");
        o = Office.of(BUSY);
        o.refuses("undo()");
        o.due("cap(7)", 99);
        o.due("undo()", 0);
        o.refuses("undo()", "undo()");
        o.due("fleet(3, 0)", -1);
        o.refuses("undo()");
    }
}
