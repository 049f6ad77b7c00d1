/** Boundary cases of promises 49 to 51: report, spell, count. */
final class TextsEdges {
    private static final String SAMPLE = TermsEdges.SAMPLE;
    private static final String LONGEST = longest();

    private TextsEdges() {
    }

    static void runAll() {
        report();
        spell();
        count();
    }

    /** Eight fleets insured in all years, forty claims of two digits. */
    private static String longest() {
        StringBuilder text = new StringBuilder("cap 98;steady 50;");
        for (int fleet = 0; fleet < 8; fleet++) {
            text.append("fleet " + fleet % 3 + " 0 1 2 3 4;");
        }
        for (int claim = 0; claim < 40; claim++) {
            text.append("claim " + claim / 5 + " " + claim % 5 + " " + (99 - claim) + ";");
        }
        return text.toString();
    }

    private static void report() {
        Edges.of(49, "without the last two if n is 0");
        Office o = Office.of(SAMPLE);
        Due.is("n is 0", o.bytesOf("report(3, "), "fleet 3 class 2 years 0;");
        o.due("insure(3, 4)", 1);
        Due.is("n is 1", o.bytesOf("report(3, ").startsWith("fleet 3 class 2 years 1 share 0 rate "), true);

        Edges.of(49, "one blank between WORDS and N, none else");
        Due.is("report(2)", o.bytesOf("report(2, "), "fleet 2 class 1 years 4 share 0 rate 8666;");
        // The least and the greatest N that can be.
        Due.is("a rate of 0", Office.of("fleet 0 0;").bytesOf("report(0, "), "fleet 0 class 0 years 1 share 0 rate 0;");
        Office whole = Office.of("fleet 0 0 1;fleet 0 0 1;claim 0 0 90;claim 0 0 90;claim 0 1 90;claim 0 1 90;");
        Due.is("a great one", whole.bytesOf("report(0, "), "fleet 0 class 0 years 2 share 1000 rate 180000;");

        Edges.of(49, "i NONE how many bytes, 0 on: the i-th");
        o = Office.of(SAMPLE);
        o.due("report(0, -1)", 45);
        o.due("report(0, 0)", 'f');
        o.due("report(0, 44)", ';');
        o.due("report(3, -1)", 24);
        o.due("report(3, 23)", ';');

        Edges.of(49, "-2: there are not so many.");
        o.dueOfEach(-2, "report(0, 45)", "report(0, max)", "report(3, 24)", "report(3, max)");

        Edges.of(49, "NONE: no such FLEET");
        o.dueOfEach(-1, "report(4, 0)", "report(-1, 0)", "report(min, 0)", "report(max, 0)", "report(4, -1)");
        Office.of("fleet 0;".repeat(8)).due("report(8, 0)", -1);

        Edges.of(49, "i below NONE.");
        o.dueOfEach(-1, "report(0, -2)", "report(0, min)", "report(3, -2)");
    }

    private static void spell() {
        Edges.of(50, "CAP, STEADY, FLEETS (YEARS rising), CLAIMS as a TEXT, in this order");
        Office o = Office.of("fleet 2 4 1 0;claim 0 4 99;steady 0;fleet 1;claim 0 1 1;cap 1;");
        Due.is("spell()", o.bytesOf("spell("), "cap 1;steady 0;fleet 2 0 1 4;fleet 1;claim 0 4 99;claim 0 1 1;");
        Due.is("of none", Office.empty().bytesOf("spell("), "cap 99;steady 5;");

        Edges.of(50, "one blank between WORDS, N, none else, no line ends");
        o = Office.of("cap\n 7 ;\nsteady  08 ;\nfleet  2 \n;\n");
        Due.is("spell()", o.bytesOf("spell("), "cap 7;steady 8;fleet 2;");

        Edges.of(50, "i NONE how many bytes, 0 on: the i-th");
        o = Office.empty();
        o.due("spell(-1)", 16);
        o.due("spell(0)", 'c');
        o.due("spell(15)", ';');
        o = Office.of(LONGEST);
        o.due("spell(-1)", 681);
        for (int i = 280; i < 681; i++) {
            o.due("spell(" + i + ")", LONGEST.charAt(i));
        }

        Edges.of(50, "-2: there are not so many.");
        o.dueOfEach(-2, "spell(681)", "spell(700)", "spell(max)");
        Office.empty().due("spell(16)", -2);

        Edges.of(50, "NONE: i below NONE.");
        o.dueOfEach(-1, "spell(-2)", "spell(min)");
    }

    private static void count() {
        Edges.of(51, "0 FLEETS, 1 CLAIMS, 2 CAP, 3 STEADY");
        Office o = Office.of(LONGEST);
        o.due("count(0)", 8);
        o.due("count(1)", 40);
        o.due("count(2)", 98);
        o.due("count(3)", 50);
        o = Office.of("cap 1;steady 0;");
        o.due("count(0)", 0);
        o.due("count(1)", 0);
        o.due("count(2)", 1);
        o.due("count(3)", 0);

        Edges.of(51, "4 ACTS that can be undone");
        o.due("count(4)", 0);
        for (int act = 1; act <= 14; act++) {
            o.ask("steady(" + act + ")");
            o.due("count(4)", Math.min(act, 12));
        }
        o.due("steady(14)", -1);
        o.due("count(4)", 12);
        o.due("undo()", 11);
        o.due("count(4)", 11);

        Edges.of(51, "5 bytes of the tape");
        o = Office.empty();
        o.due("count(5)", 0);
        o.feed(" ".repeat(700));
        o.due("count(5)", 700);
        o.due("back(699)", 1);
        o.due("count(5)", 1);

        Edges.of(51, "6 CLAIMS above CAP");
        o = Office.of("cap 8;fleet 0 0;fleet 1 0;claim 0 0 9;claim 1 0 8;claim 1 0 99;claim 0 0 7;");
        o.due("count(6)", 2);
        o.due("cap(99)", 8);
        o.due("count(6)", 0);
        o.due("cap(6)", 99);
        o.due("count(6)", 4);

        Edges.of(51, "7 FLEETS with n 0");
        o = Office.of("fleet 0;fleet 1 0;fleet 2;");
        o.due("count(7)", 2);
        o.due("forget(0)", 1);
        o.due("count(7)", 3);
        Office.of("fleet 0;".repeat(8)).due("count(7)", 8);
        Office.empty().due("count(7)", 0);

        Edges.of(51, "8 YEARS in which some FLEET is INSURED (bits)");
        o = Office.of("fleet 0 1;fleet 1 0;fleet 2 0 4;fleet 0;");
        o.due("count(8)", 19);
        o.due("forget(0)", 2);
        o.due("count(8)", 18);
        o.due("forget(4)", 1);
        o.due("count(8)", 2);
        o.due("forget(1)", 1);
        o.due("count(8)", 0);
        o.due("fleet(0, 31)", 4);
        o.due("count(8)", 31);

        Edges.of(51, "NONE for others.");
        o.dueOfEach(-1, "count(9)", "count(-1)", "count(min)", "count(max)");
    }
}
