/** Boundary cases of "Terms": the form of a TEXT, and its FAULT. */
final class TextFaultEdges {
    private TextFaultEdges() {
    }

    static void runAll() {
        form();
        toldTwiceAndLatest();
        words();
        numbers();
        gaps();
        faults();
        faultsOfNumbers();
        faultsOfClaims();
        faultsOfLimits();
        endsTooEarly();
    }

    private static void stands(String text, String held) {
        Office o = Office.of(text);
        o.dueHeld(held);
    }

    /** A text is wrong at a place; the text up to there, and the rest of it behind blanks, tell the same. */
    private static void fault(String text, int at) {
        Due.is("FAULT of '" + text + "'", -4 - Office.empty().tell(text), at);
        Due.is("FAULT of '" + text + "' behind a blank", -4 - Office.empty().tell(" " + text), at + 1);
    }

    private static void form() {
        Edges.of(Edges.TERMS, "A TEXT: { cap N ; | steady N ; | fleet N { N } ; | claim N N N ; }");
        stands("", "");
        stands(" \n", "");
        stands("cap 5;", "");
        stands("steady 5;", "");
        stands("fleet 0;", "fleet 0;");
        stands("fleet 0 0 1 2 3 4;claim 0 4 5;fleet 2;cap 3;", "fleet 0 0 1 2 3 4;fleet 2;claim 0 4 5;");
        fault(";", 0);
        fault("cap 5;;", 6);
        fault("cap;", 3);
        fault("cap 5 5;", 6);
        fault("steady;", 6);
        fault("steady 5 5;", 9);
        fault("fleet;", 5);
        fault("fleet 0 0;claim;", 15);
        fault("fleet 0 0;claim 0;", 17);
        fault("fleet 0 0;claim 0 0;", 19);
        fault("fleet 0 0;claim 0 0 5 5;", 22);
        fault("5;", 0);
    }

    private static void toldTwiceAndLatest() {
        Edges.of(Edges.TERMS, "YEARS in which it is INSURED (one told twice is one)");
        Office o = Office.of("fleet 1 3 0 3 03 0 00 3;");
        o.due("of(0, 1)", 9);
        o.due("of(0, 2)", 2);

        Edges.of(Edges.TERMS, "claim: a FLEET told ahead, a YEAR, an AMOUNT");
        stands("fleet 0 1;claim 0 1 99;fleet 2 4;claim 1 4 1;", "fleet 0 1;fleet 2 4;claim 0 1 99;claim 1 4 1;");
        fault("claim 0 1 99;fleet 0 1;", 6);
        fault("fleet 0 1;claim 1 4 1;fleet 2 4;", 16);

        Edges.of(Edges.TERMS, "the latest cap, steady hold");
        o = Office.of("cap 9;cap 99;steady 50;cap 3;steady 0;");
        o.due("count(2)", 3);
        o.due("count(3)", 0);
    }

    private static void words() {
        Edges.of(Edges.TERMS, "WORDS are small letters as far as they go on");
        fault("capx 5;", 0);
        fault("capa 5;", 0);
        fault("capz 5;", 0);
        fault("cap` 5;", 3);
        fault("cap{ 5;", 3);
        fault("capX 5;", 3);
        fault("ca p 5;", 0);
        fault("Cap 5;", 0);
        fault("ca", 0);
        fault("stead 5;", 0);
        fault("steadys 5;", 0);
        fault("flee 0;", 0);
        fault("fleets 0;", 0);
        fault("fleet 0 0;clai 0 0 5;", 10);
        fault("fleet 0 0;claims 0 0 5;", 10);
        fault("capcap 5;", 0);
        fault("acap 5;", 0);
        for (String word : new String[] {"cap", "steady", "fleet", "claim"}) {
            for (int i = 0; i < word.length(); i++) {
                fault(word.substring(0, i) + "x" + word.substring(i + 1) + " 1;", 0);
            }
        }
    }

    private static void numbers() {
        Edges.of(Edges.TERMS, "N digits as far as they go on (one or two, 0s ahead, too)");
        Office o = Office.of("cap 1;steady 0;");
        o.due("count(2)", 1);
        o.due("count(3)", 0);
        o = Office.of("cap 12;steady 50;");
        o.due("count(2)", 12);
        o.due("count(3)", 50);
        o = Office.of("cap 01;steady 00;fleet 02 04;claim 00 04 09;");
        o.due("count(2)", 1);
        o.due("count(3)", 0);
        o.dueHeld("fleet 2 4;claim 0 4 9;");
        fault("cap 1 2;", 6);
        fault("cap 1:;", 5);
        fault("cap 1/;", 5);
        fault("cap :;", 4);
        fault("cap /;", 4);
        fault("cap +1;", 4);
        fault("cap -1;", 4);
    }

    private static void gaps() {
        Edges.of(Edges.TERMS, "Blanks (32), line ends (10) where one likes");
        stands("\n cap \n 5\n; \nsteady\n\n7 ;\nfleet\n2  4\n\n0 ; claim\n0 \n4\n 9\n ;\n ", "fleet 2 0 4;claim 0 4 9;");
        for (int other : new int[] {0, 9, 11, 12, 13, 31, 33, 133, 160, 255}) {
            fault("cap" + (char) other + "5;", 3);
            fault((char) other + "cap 5;", 0);
            fault("cap 5;" + (char) other, 6);
        }

        Edges.of(Edges.TERMS, "one at least between two WORDS, two N, a WORD and N (else the second one can't stand there)");
        fault("cap5;", 3);
        fault("steady5;", 6);
        fault("fleet0;", 5);
        fault("fleet 0 0;claim0 0 5;", 15);
        fault("cap0;", 3);
        fault("cap 5x;", 5);
        fault("fleet 0fleet 0;", 7);
        // Without one, two N are one, that has the second one's digits as its own.
        fault("fleet 0 01 23;", 11);
        fault("fleet 0 0;claim 00 5;", 19);
        stands("cap\n5;steady\n5;fleet\n0\n0;claim\n0\n0\n5;", "fleet 0 0;claim 0 0 5;");
    }

    private static void faults() {
        Edges.of(Edges.TERMS, "FAULT: the first byte that can't stand there");
        for (int one = 0; one < 256; one++) {
            Due.is("a text of byte " + one, Office.empty().tell("" + (char) one), one == 32 || one == 10 ? 0 : -4);
        }
        fault("cap 0;cap 0;", 4);
        fault("cap 5;x;y;", 6);
        fault("cap 5;fleet 0 9;claim 7 7 0;", 14);

        Edges.of(Edges.TERMS, "(of a WORD, N its first one");
        fault("cap 5;fleats 0;", 6);
        fault("cap 5;steady 99;", 13);
        fault("fleet 0 1 2 12;", 12);
        fault("fleet 0 0;claim 0 0 00;", 20);
    }

    private static void faultsOfNumbers() {
        Edges.of(Edges.TERMS, "also an N out of bounds");
        fault("cap 0;", 4);
        fault("cap 00;", 4);
        fault("steady 51;", 7);
        fault("fleet 3;", 6);
        fault("fleet 0 5;", 8);
        fault("fleet 0 4;claim 0 5 1;", 18);
        fault("fleet 0 4;claim 0 4 0;", 20);
        Office o = Office.of("cap 1;steady 50;fleet 2 4;claim 0 4 1;claim 0 4 99;");
        o.dueHeld("fleet 2 4;claim 0 4 1;claim 0 4 99;");
        o.due("count(2)", 1);
        o.due("count(3)", 50);

        Edges.of(Edges.TERMS, "of three digits or more");
        fault("cap 100;", 4);
        fault("cap 005;", 4);
        fault("steady 000;", 7);
        fault("fleet 001;", 6);
        fault("fleet 0 001;", 8);
        fault("fleet 0 0;claim 000 0 5;", 16);
        fault("fleet 0 0;claim 0 000 5;", 18);
        fault("fleet 0 0;claim 0 0 005;", 20);
        // So many that, were they reckoned, they would go round to 5 in 32 bits, or in 64.
        fault("cap 4294967301;", 4);
        fault("cap 18446744073709551621;", 4);
        fault("cap " + "0".repeat(600) + "5;", 4);
    }

    private static void faultsOfClaims() {
        Edges.of(Edges.TERMS, "a FLEET not told ahead");
        fault("claim 0 0 1;", 6);
        fault("fleet 0 0;claim 1 0 1;", 16);
        fault("fleet 0 0;claim 99 0 1;", 16);
        fault("fleet 0 0;".repeat(7) + "claim 7 0 1;", 76);
        fault("fleet 0 0;".repeat(8) + "claim 8 0 1;", 86);
        stands("fleet 0 0;".repeat(8) + "claim 7 0 1;", "fleet 0 0;".repeat(8) + "claim 7 0 1;");

        Edges.of(Edges.TERMS, "a YEAR in which it isn't INSURED");
        fault("fleet 0 0 2;claim 0 1 5;", 20);
        fault("fleet 0 0 2;fleet 1 1;claim 0 1 5;", 30);
        fault("fleet 0;claim 0 0 5;", 16);
        fault("fleet 0 1 3;claim 0 4 5;", 20);
        stands("fleet 0 0 2;claim 0 0 5;claim 0 2 5;", "fleet 0 0 2;claim 0 0 5;claim 0 2 5;");
    }

    private static void faultsOfLimits() {
        Edges.of(Edges.TERMS, "a ninth FLEET");
        stands("fleet 1 2;".repeat(8), "fleet 1 2;".repeat(8));
        fault("fleet 1 2;".repeat(8) + "fleet 1 2;", 80);
        fault("fleet 1 2;".repeat(8) + "cap 5; fleet", 87);
        fault("fleet 1 2;".repeat(8) + "fleet9;", 80);

        Edges.of(Edges.TERMS, "a 41st CLAIM at its WORD");
        stands(TermsEdges.FORTY, TermsEdges.FORTY);
        fault(TermsEdges.FORTY + "claim 2 0 1;", TermsEdges.FORTY.length());
        fault(TermsEdges.FORTY + "cap 5; claim", TermsEdges.FORTY.length() + 7);
        fault(TermsEdges.FORTY + "claim9;", TermsEdges.FORTY.length());

        Edges.of(Edges.TERMS, "a fifth CLAIM of one FLEET and YEAR at the YEAR");
        String four = "fleet 0 0 1;fleet 0 0;" + "claim 0 0 1;".repeat(4);
        stands(four + "claim 0 1 1;claim 1 0 1;", four + "claim 0 1 1;claim 1 0 1;");
        fault(four + "claim 0 0 1;", 78);
        fault(four + "claim 0 0", 78);
        fault(four + "claim 1 0 1;claim 00 00 1;", 91);
        fault(four + "claim 0 0 0;", 78);
    }

    private static void endsTooEarly() {
        Edges.of(Edges.TERMS, "the TEXT's length, if it ends too early");
        String[] ends = {"cap", "cap ", "cap 5", "cap 5 \n", "steady", "steady 5", "fleet", "fleet ", "fleet 0",
            "fleet 0 ", "fleet 0 1", "fleet 0 1 ", "fleet 0 1;claim", "fleet 0 1;claim 0", "fleet 0 1;claim 0 1",
            "fleet 0 1;claim 0 1 5", "fleet 0 1;claim 0 1 5 "};
        for (String end : ends) {
            fault(end, end.length());
        }
        String longest = "cap 5" + " ".repeat(695);
        Due.is("FAULT of 700 bytes", Office.empty().tell(longest), -704);
    }
}
