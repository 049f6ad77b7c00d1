/** Boundary cases of promises 22 to 36: what is asked where there is none, and of several alike. */
final class AskedEdges {
    private static final long NO_FRACTION = -1000000000L;
    private static final String SAMPLE = TermsEdges.SAMPLE;
    private static final String EIGHT = "fleet 1 0 1;".repeat(8);
    /** One fleet alone has MEAN as its RATE: 2 by 3. */
    private static final String THIRDS = "fleet 0 0 1 2;fleet 2;claim 0 0 2;";

    private AskedEdges() {
    }

    static void runAll() {
        of();
        loss();
        claimOf();
        group();
        spread();
        whole();
        rate();
        thousandths();
        ranked();
        greatest();
        worst();
        dearestOf();
        claimsIn();
        gap();
        premium();
    }

    private static void of() {
        Edges.of(22, "1 YEARS in which it is INSURED (bits)");
        Office o = Office.of("fleet 0;fleet 0 0 1 2 3 4;fleet 0 4;");
        o.due("of(0, 1)", 0);
        o.due("of(1, 1)", 31);
        o.due("of(2, 1)", 16);

        Edges.of(22, "2 n, 3 S, 4 Q, 5 how many CLAIMS");
        StringBuilder most = new StringBuilder("fleet 0 0 1 2 3 4;fleet 0;fleet 1 0;");
        for (int claim = 0; claim < 20; claim++) {
            most.append("claim 0 " + claim % 5 + " 99;");
        }
        o = Office.of(most.toString());
        o.due("of(0, 2)", 5);
        o.due("of(0, 3)", 5 * 396);
        o.due("of(0, 4)", 5 * 396 * 396);
        o.due("of(0, 5)", 20);
        o.due("of(2, 2)", 1);
        o.dueOfEach(0, "of(1, 2)", "of(1, 3)", "of(1, 4)", "of(1, 5)", "of(2, 3)", "of(2, 4)", "of(2, 5)");

        Edges.of(22, "6 how many of them are above CAP");
        o = Office.of("cap 8;fleet 0 0;fleet 1 0;claim 0 0 9;claim 1 0 8;claim 1 0 9;claim 0 0 10;claim 1 0 7;");
        o.due("of(0, 6)", 2);
        o.due("of(1, 6)", 1);
        o.due("cap(99)", 8);
        o.due("of(0, 6)", 0);
        o.due("cap(1)", 99);
        o.due("of(0, 6)", 2);
        o.due("of(1, 6)", 3);

        Edges.of(22, "7 SHARE (-2: n is 0)");
        o = Office.of(SAMPLE);
        o.due("of(0, 7)", 979);
        o.due("of(2, 7)", 0);
        o.due("of(3, 7)", -2);
        // Of n 0 only that is told so.
        o.due("of(3, 0)", 2);
        o.dueOfEach(0, "of(3, 1)", "of(3, 2)", "of(3, 3)", "of(3, 4)", "of(3, 5)", "of(3, 6)");

        Edges.of(22, "NONE for others.");
        o = Office.of(SAMPLE);
        o.dueOfEach(-1, "of(4, 0)", "of(-1, 0)", "of(min, 0)", "of(max, 0)", "of(4, 7)", "of(8, 7)");
        o.dueOfEach(-1, "of(0, 8)", "of(0, -1)", "of(0, min)", "of(0, max)");
        Office.empty().due("of(0, 7)", -1);
        Office.of(EIGHT).due("of(8, 0)", -1);
    }

    private static void loss() {
        Edges.of(23, "-2: it isn't INSURED in it.");
        Office o = Office.of(SAMPLE);
        o.dueOfEach(-2, "loss(0, 2)", "loss(0, 4)", "loss(3, 0)", "loss(3, 4)");
        o.due("loss(2, 0)", 0);
        o.due("loss(2, 3)", 8);

        Edges.of(23, "NONE: no such ones.");
        o.dueOfEach(-1, "loss(4, 0)", "loss(-1, 0)", "loss(min, 0)", "loss(max, 0)");
        o.dueOfEach(-1, "loss(0, 5)", "loss(0, -1)", "loss(0, 32)", "loss(0, -32)", "loss(0, min)", "loss(0, max)");
        Office.of(EIGHT).due("loss(8, 0)", -1);
    }

    private static void claimOf() {
        Edges.of(24, "3 what counts of it (CAP at most)");
        Office o = Office.of("cap 50;fleet 0 0;claim 0 0 49;claim 0 0 50;claim 0 0 51;");
        o.due("claimOf(0, 3)", 49);
        o.due("claimOf(1, 3)", 50);
        o.due("claimOf(2, 3)", 50);
        o.due("claimOf(2, 2)", 51);

        Edges.of(24, "NONE for others.");
        o.dueOfEach(-1, "claimOf(3, 0)", "claimOf(-1, 0)", "claimOf(min, 0)", "claimOf(max, 0)", "claimOf(3, 3)");
        o.dueOfEach(-1, "claimOf(0, 4)", "claimOf(0, -1)", "claimOf(0, min)", "claimOf(0, max)");
        Office.empty().due("claimOf(0, 2)", -1);
        Office.of(TermsEdges.FORTY).due("claimOf(40, 0)", -1);
    }

    private static void group() {
        Edges.of(25, "0 k, 1 N, 2 T");
        Office o = Office.of("fleet 1 0 1 2 3 4;".repeat(8) + "claim 7 4 99;".repeat(4));
        o.due("group(1, 0)", 8);
        o.due("group(1, 1)", 40);
        o.due("group(1, 2)", 396);
        o.dueOfEach(0, "group(0, 0)", "group(0, 1)", "group(0, 2)");
        o = Office.of("fleet 1;");
        o.dueOfEach(0, "group(1, 0)", "group(1, 1)", "group(1, 2)");

        Edges.of(25, "3 Y (-2: N is 0)");
        o = Office.of("steady 0;fleet 0 0;fleet 1;");
        o.due("group(0, 3)", 1000);
        o.due("group(1, 3)", -2);
        o.due("group(2, 3)", -2);
        o.due("steady(50)", 0);
        o.due("group(0, 3)", 19);
        o.due("group(1, 3)", -2);

        Edges.of(25, "4 FLEETS in it (n 0, too; bits)");
        o = Office.of("fleet 1 0;fleet 2;fleet 1;fleet 2 0;");
        o.due("group(0, 4)", 0);
        o.due("group(1, 4)", 5);
        o.due("group(2, 4)", 10);
        o.due("group(1, 0)", 1);
        Office.of(EIGHT).due("group(1, 4)", 255);

        Edges.of(25, "5 all SHARES together");
        o = Office.of(EIGHT + "claim 0 0 9;claim 0 1 9;");
        o.due("group(1, 5)", 8000);
        o.due("group(0, 5)", 0);
        Office.of(SAMPLE).due("group(0, 5)", 1958);
        Office.of("fleet 0;fleet 0;").due("group(0, 5)", 0);

        Edges.of(25, "NONE for others.");
        o.dueOfEach(-1, "group(3, 0)", "group(-1, 0)", "group(min, 0)", "group(max, 0)", "group(3, 3)");
        o.dueOfEach(-1, "group(0, 6)", "group(0, -1)", "group(0, min)", "group(0, max)");
    }

    private static void spread() {
        Edges.of(26, "the upper part (may be below 0), or the lower one (lower)");
        Office o = Office.of(SAMPLE);
        o.dueFraction("spread(0, 4", -1281, 2000);
        o.dueFraction("spread(1, 4", 61, 2);

        Edges.of(26, "-1000000000: it is none (2, 3, 4: N is 0)");
        o = Office.of("fleet 0 0;claim 0 0 4;fleet 1;");
        o.dueFraction("spread(0, 0", NO_FRACTION, NO_FRACTION);
        o.dueFraction("spread(0, 1", NO_FRACTION, NO_FRACTION);
        o.dueFraction("spread(0, 2", 4, 1);
        o.dueFraction("spread(0, 3", 4, 1);
        o.dueFraction("spread(0, 4", 0, 1);
        for (int cls = 1; cls < 3; cls++) {
            for (int what = 0; what < 5; what++) {
                o.dueFraction("spread(" + cls + ", " + what, NO_FRACTION, NO_FRACTION);
            }
        }
        o.due("steady(0)", 5);
        o.dueFraction("spread(1, 3", NO_FRACTION, NO_FRACTION);

        Edges.of(26, "no such ones.");
        o = Office.of(SAMPLE);
        String[] wrong = {"3, 0", "-1, 0", "min, 0", "max, 2", "0, 5", "0, -1", "0, min", "0, max"};
        for (String arguments : wrong) {
            o.dueFraction("spread(" + arguments, NO_FRACTION, NO_FRACTION);
        }
    }

    private static void whole() {
        Edges.of(27, "-1000000000: there are no FLEETS with n 1 or more.");
        Office o = Office.empty();
        o.dueFraction("whole(", NO_FRACTION, NO_FRACTION);
        o.due("fleet(0, 0)", 0);
        o.due("fleet(2, 0)", 1);
        o.dueFraction("whole(", NO_FRACTION, NO_FRACTION);
        o.due("insure(1, 4)", 1);
        o.dueFraction("whole(", 0, 1);
        o.due("lapse(1, 4)", 0);
        o.dueFraction("whole(", NO_FRACTION, NO_FRACTION);
    }

    private static void rate() {
        Edges.of(28, "-1000000000: n is 0");
        Office o = Office.of(SAMPLE);
        o.dueFraction("rate(3", NO_FRACTION, NO_FRACTION);
        o.dueFraction("rate(2", 77, 8);
        // Others of its class don't help it.
        o = Office.of("fleet 0;fleet 0 0;claim 1 0 5;");
        o.dueFraction("rate(0", NO_FRACTION, NO_FRACTION);
        o.dueFraction("rate(1", 5, 1);

        Edges.of(28, "no such one.");
        o = Office.of(SAMPLE);
        for (String wrong : new String[] {"4", "-1", "8", "min", "max"}) {
            o.dueFraction("rate(" + wrong, NO_FRACTION, NO_FRACTION);
        }
        Office.of(EIGHT).dueFraction("rate(8", NO_FRACTION, NO_FRACTION);
    }

    private static void thousandths() {
        Edges.of(29, "RATE of a FLEET in thousandths, cut");
        Office.of(THIRDS).due("thousandths(0)", 666);
        Office.of("fleet 0 0;").due("thousandths(0)", 0);
        StringBuilder most = new StringBuilder("fleet 0 0 1 2 3 4;fleet 0 0 1 2 3 4;");
        for (int claim = 0; claim < 40; claim++) {
            most.append("claim " + claim / 20 + " " + claim % 5 + " 99;");
        }
        Office.of(most.toString()).due("thousandths(1)", 396000);

        Edges.of(29, "-2: n is 0.");
        Office o = Office.of(THIRDS);
        o.due("thousandths(1)", -2);
        o.due("lapse(0, 0)", 1);
        o.due("thousandths(0)", 0);
        o.due("lapse(0, 1)", 0);
        o.due("lapse(0, 2)", 0);
        o.due("thousandths(0)", -2);

        Edges.of(29, "NONE: no such one.");
        o.dueOfEach(-1, "thousandths(2)", "thousandths(-1)", "thousandths(8)", "thousandths(min)", "thousandths(max)");
        Office.empty().due("thousandths(0)", -1);
        Office.of(EIGHT).due("thousandths(8)", -1);
    }

    private static void ranked() {
        Edges.of(30, "The k-th FLEET (of those with n 1 or more) by RATE");
        Office o = Office.of("fleet 0;fleet 1 0;fleet 2;fleet 0 1;claim 1 0 9;");
        o.due("ranked(0)", 1);
        o.due("ranked(1)", 3);
        o.due("ranked(2)", -1);

        Edges.of(30, "the greatest first, of alike ones by numbers");
        o = Office.of(EIGHT);
        for (int k = 0; k < 8; k++) {
            o.due("ranked(" + k + ")", k);
        }
        // By STEADY 0 alone in their classes: 5, 11 by 2, 5.
        o = Office.of("steady 0;fleet 0 0;fleet 1 0 1;fleet 2 0;claim 0 0 5;claim 1 0 11;claim 2 0 5;");
        o.due("ranked(0)", 1);
        o.due("ranked(1)", 0);
        o.due("ranked(2)", 2);
        // 1 by 22 and a little more than .0459 are alike in thousandths, but not as RATES.
        o = Office.of("fleet 1 0 1 2 3 4;fleet 0 0 1 2 3;fleet 0 3 4;claim 2 4 1;");
        o.due("gap(0, 1)", 0);
        o.due("ranked(0)", 2);
        o.due("ranked(1)", 1);
        o.due("ranked(2)", 0);

        Edges.of(30, "NONE: no such one.");
        o.dueOfEach(-1, "ranked(3)", "ranked(-1)", "ranked(min)", "ranked(max)");
        Office.of(EIGHT).dueOfEach(-1, "ranked(8)", "ranked(-1)");
        Office.empty().due("ranked(0)", -1);
        Office.of("fleet 0;").due("ranked(0)", -1);
    }

    private static void greatest() {
        Edges.of(31, "The k-th CLAIM of a FLEET by AMOUNT, the greatest first, of alike ones by numbers");
        // AMOUNTS are not held to CAP.
        Office o = Office.of("cap 5;fleet 0 0 1;fleet 1 0;fleet 2 0;"
                + "claim 0 0 7;claim 1 0 99;claim 0 1 9;claim 0 1 7;claim 0 0 50;");
        int[] want = {4, 2, 0, 3};
        for (int k = 0; k < 4; k++) {
            o.due("greatest(0, " + k + ")", want[k]);
        }
        o.due("greatest(1, 0)", 1);

        Edges.of(31, "NONE: no such ones.");
        o.dueOfEach(-1, "greatest(0, 4)", "greatest(0, -1)", "greatest(0, min)", "greatest(0, max)", "greatest(1, 1)");
        o.dueOfEach(-1, "greatest(2, 0)", "greatest(3, 0)", "greatest(-1, 0)", "greatest(min, 0)", "greatest(max, 0)");
        Office.empty().dueOfEach(-1, "greatest(0, 0)", "greatest(-1, 0)");
    }

    private static void worst() {
        Edges.of(32, "The FLEET with the greatest LOSS in a YEAR (of those INSURED in it)");
        Office o = Office.of("cap 10;fleet 0 1;fleet 1 0;fleet 2 0 1;claim 0 1 9;claim 1 0 10;claim 2 0 11;claim 2 0 1;");
        o.due("worst(0)", 2);
        o.due("worst(1)", 0);
        Office.of("fleet 0 1;fleet 1 0;").due("worst(0)", 1);

        Edges.of(32, "of several the first");
        // Each has 10 in year 0, as CAP holds the second one's; in year 4 each has 0.
        o = Office.of("cap 10;fleet 0 1;fleet 1 0 4;fleet 2 0 4;claim 2 0 99;claim 1 0 10;");
        o.due("worst(0)", 1);
        o.due("worst(4)", 1);

        Edges.of(32, "-2: there is none.");
        o.due("worst(2)", -2);
        o.due("worst(3)", -2);
        Office.empty().dueOfEach(-2, "worst(0)", "worst(4)");

        Edges.of(32, "NONE: no such YEAR.");
        o.dueOfEach(-1, "worst(5)", "worst(-1)", "worst(32)", "worst(-32)", "worst(min)", "worst(max)");
    }

    private static void dearestOf() {
        Edges.of(33, "The FLEET of a CLASS (of those with n 1 or more) with the greatest RATE");
        Office o = Office.of("fleet 0;fleet 0 0 1;fleet 1 0;fleet 0 0 1;claim 3 0 9;claim 3 1 9;claim 2 0 99;");
        o.due("dearestOf(0)", 3);
        o.due("dearestOf(1)", 2);
        Office.of("fleet 2;fleet 2 0;").due("dearestOf(2)", 1);
        // Fleets 1 and 2 have 1111 thousandths, but 2 has a little more.
        o = Office.of("fleet 0 0 1 2;fleet 0 0 1;fleet 0 0 1 2;fleet 0 0 1;claim 1 1 3;claim 2 1 6;claim 1 0 2;");
        o.due("thousandths(1)", 1111);
        o.due("thousandths(2)", 1111);
        o.due("dearestOf(0)", 2);

        Edges.of(33, "of several the first");
        Office.of("fleet 0;" + EIGHT.substring(12)).due("dearestOf(1)", 1);
        Office.of("fleet 0 0;fleet 0 1;fleet 0 2;claim 2 2 50;").due("dearestOf(0)", 0);

        Edges.of(33, "-2: there is none.");
        o = Office.of("fleet 0 0;fleet 1;");
        o.due("dearestOf(1)", -2);
        o.due("dearestOf(2)", -2);

        Edges.of(33, "NONE: no such CLASS.");
        o.dueOfEach(-1, "dearestOf(3)", "dearestOf(-1)", "dearestOf(min)", "dearestOf(max)");
    }

    private static void claimsIn() {
        Edges.of(34, "How many CLAIMS of a YEAR there are.");
        Office o = Office.of(TermsEdges.FORTY);
        o.dueOfEach(8, "claimsIn(0)", "claimsIn(4)");
        o = Office.of("fleet 0 0 4;claim 0 4 5;claim 0 4 6;");
        o.due("claimsIn(4)", 2);
        o.dueOfEach(0, "claimsIn(0)", "claimsIn(1)");

        Edges.of(34, "NONE: no such YEAR.");
        o.dueOfEach(-1, "claimsIn(5)", "claimsIn(-1)", "claimsIn(7)", "claimsIn(32)", "claimsIn(min)", "claimsIn(max)");
    }

    private static void gap() {
        Edges.of(35, "RATE of a FLEET in thousandths less that of another one (it may be below 0)");
        Office o = Office.of(SAMPLE);
        o.due("gap(0, 1)", 15207 - 49472);
        o.due("gap(1, 0)", 49472 - 15207);
        o.due("gap(2, 2)", 0);
        Office.of("fleet 0 0;fleet 1 0;").due("gap(0, 1)", 0);
        // Both are cut first: 1333 less 666, where 2 by 3 would be 666.
        o = Office.of("steady 0;fleet 0 0 1 2;fleet 1 0 1 2;claim 0 0 2;claim 1 0 4;");
        o.due("gap(1, 0)", 667);
        o.due("gap(0, 1)", -667);

        Edges.of(35, "-1000000: n of one is 0");
        o = Office.of(SAMPLE);
        o.dueOfEach(-1000000, "gap(0, 3)", "gap(3, 0)", "gap(3, 3)");

        Edges.of(35, "no such ones.");
        o.dueOfEach(-1000000, "gap(4, 0)", "gap(-1, 0)", "gap(min, 0)", "gap(max, 0)");
        o.dueOfEach(-1000000, "gap(0, 4)", "gap(0, -1)", "gap(0, min)", "gap(0, max)", "gap(4, 4)", "gap(3, 4)");
    }

    private static void premium() {
        Edges.of(36, "RATE of a FLEET for so many months (1 .. 60), in thousandths");
        Office o = Office.of("fleet 0 0;fleet 1;claim 0 0 12;");
        o.due("premium(0, 1)", 1000);
        o.due("premium(0, 60)", 60000);
        o.dueOfEach(-1, "premium(0, 0)", "premium(0, 61)");

        Edges.of(36, "RATE in thousandths times months by 12, cut");
        o = Office.of(THIRDS);
        o.due("premium(0, 1)", 55);
        o.due("premium(0, 5)", 277);
        o.due("premium(0, 12)", 666);
        // RATE is cut ahead of it: not 3333.
        o.due("premium(0, 60)", 3330);

        Edges.of(36, "-2: n is 0.");
        o.dueOfEach(-2, "premium(1, 1)", "premium(1, 12)", "premium(1, 60)");

        Edges.of(36, "NONE: no such ones.");
        o.dueOfEach(-1, "premium(2, 1)", "premium(-1, 1)", "premium(min, 60)", "premium(max, 60)");
        o.dueOfEach(-1, "premium(0, 0)", "premium(0, 61)", "premium(0, -1)", "premium(0, min)", "premium(0, max)");
    }
}
