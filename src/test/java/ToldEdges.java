/** Boundary cases of promises 1 to 4: a new object, the tape, the text. */
final class ToldEdges {
    private static final String FULL_OF_BLANKS = " ".repeat(700);

    private ToldEdges() {
    }

    static void runAll() {
        newObject();
        feed();
        back();
        text();
    }

    private static void newObject() {
        Edges.of(1, "No FLEETS; CAP 99, STEADY 5.");
        Office o = Office.empty();
        o.dueOfEach(0, "count(0)", "count(1)", "count(4)", "count(5)", "count(6)", "count(7)", "count(8)");
        o.due("count(2)", 99);
        o.due("count(3)", 5);
        o.due("of(0, 0)", -1);
        o.due("claimOf(0, 0)", -1);
        Office other = Office.of("cap 7;fleet 0 1;claim 0 1 5;");
        other.due("count(0)", 1);
        o.due("count(0)", 0);
    }

    private static void feed() {
        Edges.of(2, "Twenty bytes, the highest of a first, come behind the tape: how many it has.");
        for (int at = 0; at < 20; at++) {
            // A byte above 127 makes its int, or what is above it in it, go below 0.
            StringBuilder some = new StringBuilder(" ".repeat(20));
            some.setCharAt(at, (char) (255 - at));
            Due.is("the byte at " + at, Office.empty().tell(some.toString()), -4 - at);
            Due.is("the byte behind twenty", Office.empty().tell(" ".repeat(20) + some), -24 - at);
        }
        Office o = Office.empty();
        o.due("feed(-1, min, max, 0, -2)", 20);
        o.due("feed(-1, min, max, 0, -2)", 40);
        o.due("count(5)", 40);

        Edges.of(2, "NONE, and nothing comes, if it would have more than 700.");
        o = Office.empty();
        o.feed(FULL_OF_BLANKS.substring(20));
        o.due("count(5)", 680);
        o.due("feed(1667330080, 926621728, 538976288, 538976288, 538976288)", 700);
        o.refuses("feed(0, 0, 0, 0, 0)");
        o.due("back(1)", 699);
        o.refuses("feed(0, 0, 0, 0, 0)");
        o.due("back(10)", 689);
        o.refuses("feed(0, 0, 0, 0, 0)");
        o.due("back(8)", 681);
        o.refuses("feed(0, 0, 0, 0, 0)");
        o.due("text()", -4 - 680);
        o.feed(FULL_OF_BLANKS.substring(20));
        o.due("feed(1667330080, 926621728, 538976288, 538976288, 538976288)", 700);
        o.refuses("feed(0, 0, 0, 0, 0)");
        o.due("text()", 0);
        o.due("count(2)", 7);
        o.due("feed(0, 0, 0, 0, 0)", 20);
    }

    private static void back() {
        Edges.of(3, "The last n bytes of the tape go: how many it has.");
        Office o = Office.empty();
        o.due("back(0)", 0);
        o.feed("cap 5;cap 6;cap 777;");
        o.due("back(0)", 20);
        o.due("back(2)", 18);
        o.feed(";");
        o.due("text()", 0);
        o.due("count(2)", 77);
        o.feed("cap 5;x");
        o.due("back(1)", 6);
        o.due("text()", 0);
        o.due("count(2)", 5);
        o.feed(FULL_OF_BLANKS);
        o.due("back(700)", 0);

        Edges.of(3, "NONE, and nothing goes, if it has not so many, or n is below 0.");
        o = Office.empty();
        o.refuses("back(1)", "back(-1)", "back(max)", "back(min)");
        o.feed("cap 5;");
        o.refuses("back(7)", "back(-1)", "back(max)", "back(min)", "back(700)");
        o.due("count(5)", 6);
        o.due("text()", 0);
        o.due("count(2)", 5);
        o.feed(FULL_OF_BLANKS);
        o.refuses("back(701)");
    }

    private static void text() {
        Edges.of(4, "The tape (empty then, behind a FAULT, too) is the TEXT");
        Office o = Office.empty();
        o.feed("cap 5;");
        o.due("text()", 0);
        o.due("count(5)", 0);
        o.due("count(2)", 5);
        o.feed("cap 6;x");
        o.due("text()", -10);
        o.due("count(5)", 0);
        o.refuses("back(1)");
        // What was on it is gone: what comes then stands at its beginning.
        o.feed("x");
        o.due("text()", -4);
        o.feed("cap 7;");
        o.due("text()", 0);
        o.due("count(2)", 7);

        Edges.of(4, "all anew (CAP, STEADY as at first, if not told)");
        o = Office.of("cap 7;steady 7;fleet 1 0;fleet 2 1;claim 0 0 5;");
        o.due("text()", 0);
        o.due("count(2)", 99);
        o.due("count(3)", 5);
        o.dueHeld("");
        o.tell("steady 7;fleet 1 0;claim 0 0 5;claim 0 0 6;");
        o.due("count(2)", 99);
        o.due("count(3)", 7);
        o.tell("cap 7;fleet 2 4;");
        o.due("count(2)", 7);
        o.due("count(3)", 5);
        o.dueHeld("fleet 2 4;");
        o.due("claim(0, 0, 5)", -1);
        o.due("claim(0, 4, 5)", 0);

        Edges.of(4, "how many FLEETS");
        Due.is("none", Office.empty().tell("cap 5;"), 0);
        Due.is("one", Office.empty().tell("fleet 0;"), 1);
        Due.is("eight", Office.empty().tell("fleet 0 1;claim 0 1 5;".repeat(4) + "fleet 2;".repeat(4)), 8);

        Edges.of(4, "-4 less its FAULT, and all else stays.");
        o = Office.of("cap 7;steady 7;fleet 1 0;claim 0 0 5;");
        o.due("fleet(2, 31)", 1);
        o.due("cap(8)", 7);
        String had = o.state();
        Due.is("a FAULT at 0", o.tell("x"), -4);
        Due.is("all behind it", o.state(), had);
        Due.is("a FAULT at the end", o.tell("cap 3;steady 3;fleet 0 1;claim 0 1 5"), -40);
        Due.is("all behind it", o.state(), had);
        Due.is("a FAULT behind a new CAP", o.tell("cap 3;steady 3;fleet 0 1;fleet 3;"), -35);
        Due.is("all behind it", o.state(), had);
        o.due("undo()", 1);
        o.due("count(2)", 7);
        o.due("undo()", 0);
        o.dueHeld("fleet 1 0;claim 0 0 5;");
    }
}
