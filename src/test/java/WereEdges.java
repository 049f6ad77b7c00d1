/** Boundary cases of promises 37 to 48: what would be, at the limits of what is asked. */
final class WereEdges {
    private static final long NO_FRACTION = -1000000000L;
    private static final String SAMPLE = TermsEdges.SAMPLE;
    /** One fleet alone has MEAN as its RATE: 2 by 3, in whichever class. */
    private static final String THIRDS = "fleet 0 0 1 2;fleet 2;claim 0 0 2;";
    private static final String ALONE = "fleet 0 0 1;fleet 2;claim 0 0 30;claim 0 1 60;";

    private WereEdges() {
    }

    static void runAll() {
        shareBy();
        yearsFor();
        inClass();
        bestClass();
        byCap();
        capFor();
        early();
        earlyShare();
        withoutFleet();
        joined();
        withoutClaim();
        dearest();
    }

    private static void shareBy() {
        Edges.of(37, "SHARE of a FLEET, were its n so many (1 .. 99), BETWEEN and WITHIN as they are");
        Office o = Office.of(SAMPLE);
        o.due("shareBy(0, 1)", 960);
        o.due("shareBy(0, 2)", 979);
        o.due("shareBy(1, 99)", 999);
        o.dueOfEach(-1, "shareBy(0, 0)", "shareBy(0, 100)");
        // BETWEEN is none: 0 by whichever n.
        o.dueOfEach(0, "shareBy(2, 1)", "shareBy(2, 99)");
        Office.of("fleet 0 0 1;fleet 0 0 1;claim 0 0 9;claim 0 1 9;").due("shareBy(1, 1)", 1000);

        Edges.of(37, "-2: n is 0.");
        o.dueOfEach(-2, "shareBy(3, 1)", "shareBy(3, 99)");
        Office.of("fleet 0;fleet 0 0 1;fleet 0 0 1;claim 1 0 9;claim 1 1 9;").due("shareBy(0, 5)", -2);

        Edges.of(37, "NONE: no such ones.");
        o.dueOfEach(-1, "shareBy(4, 1)", "shareBy(-1, 1)", "shareBy(min, 1)", "shareBy(max, 1)");
        o.dueOfEach(-1, "shareBy(0, 0)", "shareBy(0, 100)", "shareBy(0, -1)", "shareBy(0, min)", "shareBy(0, max)");
    }

    private static void yearsFor() {
        Edges.of(38, "The least n (1 .. 99) by which that is so many thousandths (1 .. 1000) or more");
        Office o = Office.of(SAMPLE);
        o.dueOfEach(1, "yearsFor(0, 1)", "yearsFor(0, 959)", "yearsFor(0, 960)");
        o.dueOfEach(2, "yearsFor(0, 961)", "yearsFor(0, 979)");
        o.due("yearsFor(0, 980)", 3);
        o.due("yearsFor(0, 999)", 42);
        o.dueOfEach(-1, "yearsFor(0, 0)", "yearsFor(0, 1001)");
        Office.of("fleet 0 0 1;fleet 0 0 1;claim 0 0 9;claim 0 1 9;").due("yearsFor(1, 1000)", 1);
        // BETWEEN is 1 by 98 of WITHIN: by 98 it is 500, by 99 502, by 100 it would be 505.
        Office far = Office.of("fleet 0 0 1;fleet 0 0 1;claim 0 0 8;claim 0 1 1;claim 1 0 13;claim 1 1 6;");
        far.dueOfEach(98, "yearsFor(0, 498)", "yearsFor(0, 500)");
        far.dueOfEach(99, "yearsFor(0, 501)", "yearsFor(0, 502)");

        Edges.of(38, "-2: by none");
        far.dueOfEach(-2, "yearsFor(0, 503)", "yearsFor(0, 505)", "yearsFor(0, 1000)");
        o.due("yearsFor(0, 1000)", -2);
        o.dueOfEach(-2, "yearsFor(2, 1)", "yearsFor(2, 1000)");

        Edges.of(38, "n is 0.");
        o.dueOfEach(-2, "yearsFor(3, 1)", "yearsFor(3, 1000)");
        Office.of("fleet 0;fleet 0 0 1;fleet 0 0 1;claim 1 0 9;claim 1 1 9;").due("yearsFor(0, 500)", -2);

        Edges.of(38, "NONE: no such ones.");
        o.dueOfEach(-1, "yearsFor(4, 1)", "yearsFor(-1, 1)", "yearsFor(min, 1)", "yearsFor(max, 1)");
        o.dueOfEach(-1, "yearsFor(0, 0)", "yearsFor(0, 1001)", "yearsFor(0, -1)", "yearsFor(0, min)", "yearsFor(0, max)");
    }

    private static void inClass() {
        Edges.of(39, "RATE of a FLEET in thousandths, cut, were it in another CLASS, or that one");
        Office o = Office.of(THIRDS);
        o.dueOfEach(666, "inClass(0, 0)", "inClass(0, 1)", "inClass(0, 2)");
        // With the other one 10, the mean of both; elsewhere .166 times 4 and .834 times 10.
        o = Office.of("fleet 0 0;fleet 0 1;claim 0 0 4;claim 1 1 16;");
        o.due("inClass(0, 0)", 10000);
        o.dueOfEach(9004, "inClass(0, 1)", "inClass(0, 2)");
        o.due("thousandths(0)", 10000);

        Edges.of(39, "-2: n is 0.");
        o = Office.of(SAMPLE);
        o.dueOfEach(-2, "inClass(3, 0)", "inClass(3, 1)", "inClass(3, 2)");

        Edges.of(39, "NONE: no such ones.");
        o.dueOfEach(-1, "inClass(4, 0)", "inClass(-1, 0)", "inClass(min, 0)", "inClass(max, 0)");
        o.dueOfEach(-1, "inClass(0, 3)", "inClass(0, -1)", "inClass(0, min)", "inClass(0, max)");
    }

    private static void bestClass() {
        Edges.of(40, "The CLASS in which that is least, of several the least");
        Office.of("fleet 2 0;").due("bestClass(0)", 0);
        Office o = Office.of("fleet 0 0;fleet 0 1;claim 0 0 4;claim 1 1 16;");
        o.due("bestClass(0)", 1);
        o.due("bestClass(1)", 0);
        o = Office.of("steady 0;fleet 0 0;fleet 0 1;fleet 1 0;claim 1 1 50;claim 2 0 50;");
        o.due("inClass(0, 0)", 25000);
        o.due("inClass(0, 1)", 25000);
        o.due("inClass(0, 2)", 0);
        o.due("bestClass(0)", 2);

        Edges.of(40, "-2: n is 0.");
        o = Office.of(SAMPLE);
        o.due("bestClass(3)", -2);

        Edges.of(40, "NONE: no such one.");
        o.dueOfEach(-1, "bestClass(4)", "bestClass(-1)", "bestClass(8)", "bestClass(min)", "bestClass(max)");
    }

    private static void byCap() {
        Edges.of(41, "RATE of a FLEET in thousandths, cut, were CAP another one (1 .. 99)");
        Office.of("fleet 0 0 1 2;claim 0 0 9;").due("byCap(0, 2)", 666);
        Office o = Office.of("cap 40;" + ALONE);
        o.due("byCap(0, 1)", 1000);
        o.due("byCap(0, 30)", 30000);
        o.due("byCap(0, 31)", 30500);
        o.due("byCap(0, 40)", 35000);
        o.due("byCap(0, 59)", 44500);
        o.dueOfEach(45000, "byCap(0, 60)", "byCap(0, 99)");
        o.dueOfEach(-1, "byCap(0, 0)", "byCap(0, 100)");

        Edges.of(41, "-2: n is 0.");
        o.dueOfEach(-2, "byCap(1, 1)", "byCap(1, 99)");

        Edges.of(41, "NONE: no such ones.");
        o.dueOfEach(-1, "byCap(2, 5)", "byCap(-1, 5)", "byCap(min, 5)", "byCap(max, 5)");
        o.dueOfEach(-1, "byCap(0, 0)", "byCap(0, 100)", "byCap(0, -1)", "byCap(0, min)", "byCap(0, max)");
    }

    private static void capFor() {
        Edges.of(42, "The least CAP (1 .. 99) by which byCap() is as much as by 99");
        Office.of("fleet 0 0;").due("capFor(0)", 1);
        for (int amount : new int[] {1, 2, 50, 98, 99}) {
            Office.of("cap 7;fleet 0 0;claim 0 0 " + amount + ";").due("capFor(0)", amount);
        }
        Office o = Office.of("cap 7;" + ALONE);
        o.due("capFor(0)", 60);

        Edges.of(42, "(others between may tell another one)");
        Office between = Office.of("fleet 0 1 2;fleet 0 2;claim 1 2 98;claim 0 2 3;");
        long by99 = between.ask("byCap(0, 99)");
        Due.is("by 49", between.ask("byCap(0, 49)") != by99, true);
        between.due("byCap(0, 50)", by99);
        Due.is("by 60", between.ask("byCap(0, 60)") != by99, true);
        between.due("capFor(0)", 50);

        Edges.of(42, "-2: n is 0.");
        o.due("capFor(1)", -2);

        Edges.of(42, "NONE: no such one.");
        o.dueOfEach(-1, "capFor(2)", "capFor(-1)", "capFor(8)", "capFor(min)", "capFor(max)");
    }

    private static void early() {
        Edges.of(43, "were nobody INSURED (nor any CLAIM) in YEARS from one on (1 .. 4; 5: as it is)");
        Office o = Office.of("fleet 0 0 1 2 3 4;claim 0 0 10;claim 0 1 20;claim 0 2 30;claim 0 3 40;claim 0 4 50;");
        for (int year = 1; year <= 5; year++) {
            o.due("early(0, " + year + ")", 5000 + 5000 * year);
        }
        o.dueOfEach(-1, "early(0, 0)", "early(0, 6)");
        // Class 1 has N 2, Y 285, CENTRE 6; WHOLE, without what fleet 0 lost in year 4, 12 by 3.
        o = Office.of("fleet 0 3 4;fleet 1 0 3;claim 0 4 9;claim 1 0 4;claim 1 3 8;");
        o.due("early(1, 4)", 4570);
        o.due("early(1, 3)", 4000);

        Edges.of(43, "RATE of a FLEET in thousandths, cut");
        Office.of("fleet 0 0 1 2 4;claim 0 0 2;claim 0 4 9;").due("early(0, 3)", 666);

        Edges.of(43, "-2: n is 0 then.");
        o.dueOfEach(-2, "early(0, 1)", "early(0, 3)");
        Due.is("early(0, 4)", o.ask("early(0, 4)") >= 0, true);
        Office.of(SAMPLE).dueOfEach(-2, "early(3, 1)", "early(3, 5)");

        Edges.of(43, "NONE: no such ones.");
        o.dueOfEach(-1, "early(2, 1)", "early(-1, 1)", "early(min, 1)", "early(max, 1)");
        o.dueOfEach(-1, "early(0, 0)", "early(0, 6)", "early(0, -1)", "early(0, 33)", "early(0, min)", "early(0, max)");
    }

    private static void earlyShare() {
        Edges.of(44, "SHARE of a FLEET likewise.");
        // From year 2 on nobody: n 2 and 2, as in the sample; from year 1 on WITHIN is none.
        Office o = Office.of("fleet 0 0 1 2 4;fleet 0 0 1;fleet 1 3;fleet 2;"
                + "claim 0 0 10;claim 0 1 20;claim 1 0 50;claim 1 1 50;claim 0 4 90;");
        o.dueOfEach(0, "earlyShare(0, 1)", "earlyShare(1, 1)", "earlyShare(2, 4)");
        o.dueOfEach(979, "earlyShare(0, 2)", "earlyShare(1, 2)");
        o.due("earlyShare(0, 5)", o.ask("of(0, 7)"));
        o.due("earlyShare(1, 5)", o.ask("of(1, 7)"));
        o.dueOfEach(-2, "earlyShare(2, 3)", "earlyShare(2, 1)", "earlyShare(3, 5)", "earlyShare(3, 1)");
        o.dueOfEach(-1, "earlyShare(4, 1)", "earlyShare(-1, 1)", "earlyShare(min, 1)", "earlyShare(max, 1)");
        o.dueOfEach(-1, "earlyShare(0, 0)", "earlyShare(0, 6)", "earlyShare(0, -1)", "earlyShare(0, min)",
                "earlyShare(0, max)");
    }

    private static void withoutFleet() {
        Edges.of(45, "RATE of a FLEET in thousandths, cut, were another one not there");
        Office.of(THIRDS).due("withoutFleet(0, 1)", 666);
        // Without fleet 0 class 0 has N 2, Y 333, CENTRE 50, and WHOLE is 18; class 1 has Y 500, CENTRE 2.
        Office o = Office.of(SAMPLE);
        o.due("withoutFleet(1, 0)", 28656);
        o.due("withoutFleet(2, 0)", 10000);
        o.due("withoutFleet(0, 3)", 15207);
        o = Office.of("fleet 0 0;" + "fleet 1 0;".repeat(6) + "fleet 2 0;claim 0 0 8;claim 7 0 8;");
        // WHOLE is 8 by 7, Y 166, CENTRE 8.
        o.dueOfEach(2281, "withoutFleet(7, 0)", "withoutFleet(0, 7)");

        Edges.of(45, "-2: n is 0.");
        o = Office.of(SAMPLE);
        o.dueOfEach(-2, "withoutFleet(3, 0)", "withoutFleet(3, 2)");

        Edges.of(45, "NONE: no such ones");
        o.dueOfEach(-1, "withoutFleet(4, 0)", "withoutFleet(-1, 0)", "withoutFleet(min, 0)", "withoutFleet(max, 0)");
        o.dueOfEach(-1, "withoutFleet(0, 4)", "withoutFleet(0, -1)", "withoutFleet(0, min)", "withoutFleet(0, max)");

        Edges.of(45, "both are one.");
        o.dueOfEach(-1, "withoutFleet(0, 0)", "withoutFleet(2, 2)", "withoutFleet(3, 3)");
    }

    private static void joined() {
        Edges.of(46, "Were all FLEETS of a CLASS in another one: what spread() tells of that one.");
        Office o = Office.of(SAMPLE);
        o.dueFraction("joined(1, 0, 0", 98, 5);
        o.dueFraction("joined(0, 1, 1", 30463, 50);
        // Class 2 has a fleet of n 0 alone: all is as it is.
        o.dueFraction("joined(2, 0, 3", 199, 8);
        o.dueFraction("joined(0, 2, 3", 199, 8);
        o = Office.of("fleet 0 0;claim 0 0 4;");
        // A class without fleets.
        o.dueFraction("joined(1, 0, 2", 4, 1);
        o.dueFraction("joined(0, 1, 2", 4, 1);

        Edges.of(46, "-1000000000 likewise");
        o = Office.of("fleet 0 0;fleet 1 1;fleet 2;");
        o.dueFraction("joined(0, 1, 0", NO_FRACTION, NO_FRACTION);
        o.dueFraction("joined(0, 1, 1", NO_FRACTION, NO_FRACTION);
        o.dueFraction("joined(0, 2, 1", NO_FRACTION, NO_FRACTION);
        o.dueFraction("joined(0, 1, 2", 0, 1);
        o.due("lapse(1, 1)", 0);
        for (int what = 0; what < 5; what++) {
            o.dueFraction("joined(1, 2, " + what, NO_FRACTION, NO_FRACTION);
        }

        Edges.of(46, "no such ones");
        o = Office.of(SAMPLE);
        String[] wrong = {"3, 0, 2", "-1, 0, 2", "min, 0, 2", "max, 0, 2", "0, 3, 2", "0, -1, 2", "0, min, 2",
            "0, max, 2", "0, 1, 5", "0, 1, -1", "0, 1, min", "0, 1, max"};
        for (String arguments : wrong) {
            o.dueFraction("joined(" + arguments, NO_FRACTION, NO_FRACTION);
        }

        Edges.of(46, "both are one.");
        for (int cls = 0; cls < 3; cls++) {
            o.dueFraction("joined(" + cls + ", " + cls + ", 2", NO_FRACTION, NO_FRACTION);
        }
    }

    private static void withoutClaim() {
        Edges.of(47, "RATE of a FLEET in thousandths, cut, were a CLAIM (its own, or another one's) not there");
        Office.of("fleet 0 0 1 2;claim 0 0 2;claim 0 1 9;").due("withoutClaim(0, 1)", 666);
        Office o = Office.of(ALONE);
        o.due("withoutClaim(0, 0)", 30000);
        o.due("withoutClaim(0, 1)", 15000);
        // Y 500: half its own 8, half of WHOLE, which is 7, or 4 without the other one's.
        o = Office.of("steady 1;fleet 0 0;fleet 1 0;fleet 2;claim 0 0 8;claim 1 0 6;");
        o.due("withoutClaim(0, 1)", 6000);
        o.due("withoutClaim(0, 0)", 1500);
        // The first and the last of forty: 133 by 5.
        o = Office.of("steady 0;" + TermsEdges.FORTY);
        o.dueOfEach(26600, "withoutClaim(0, 0)", "withoutClaim(1, 39)");

        Edges.of(47, "-2: n is 0.");
        o = Office.of(SAMPLE);
        o.dueOfEach(-2, "withoutClaim(3, 0)", "withoutClaim(3, 4)");

        Edges.of(47, "NONE: no such ones.");
        o.dueOfEach(-1, "withoutClaim(4, 0)", "withoutClaim(-1, 0)", "withoutClaim(min, 0)", "withoutClaim(max, 0)");
        o.dueOfEach(-1, "withoutClaim(0, 5)", "withoutClaim(0, -1)", "withoutClaim(0, min)", "withoutClaim(0, max)");
        Office.of("fleet 0 0;").due("withoutClaim(0, 0)", -1);
    }

    private static void dearest() {
        Edges.of(48, "The CLAIM without which RATE of its own FLEET in thousandths were less by most (0, below 0, too)");
        // By STEADY 0 and alone a fleet has MEAN: the claims are worth 6, 7 and 3.
        Office o = Office.of("steady 0;fleet 0 0 1;fleet 1 0;fleet 2 0 1 2;claim 0 0 12;claim 1 0 7;claim 2 1 9;");
        o.due("dearest()", 1);
        o.due("swap(0, 1)", 1);
        o.due("dearest()", 1);
        o.due("swap(1, 2)", 1);
        o.due("dearest()", 1);
        o.due("amend(0, 60)", 12);
        o.due("dearest()", 0);
        // A claim that stands apart makes WITHIN great and SHARES small: without it the rate is more.
        o = Office.of("fleet 0 0 1 2;fleet 0 0 1 2 3;fleet 0 0 1 2 3;fleet 0 0 1 2;"
                + "claim 0 1 19;claim 3 0 38;claim 2 3 1;");
        dueLess(o, 0, 0, -1101);
        dueLess(o, 3, 1, 0);
        dueLess(o, 2, 2, -2823);
        o.due("dearest()", 1);
        o = Office.of("fleet 0 0 1 2;fleet 0 0 1 2 3;fleet 0 0 1 2;fleet 0 0 1 2 3;claim 0 2 27;claim 2 1 47;");
        dueLess(o, 0, 0, -1331);
        dueLess(o, 2, 1, -171);
        o.due("dearest()", 1);

        Edges.of(48, "of several the first");
        Office.of("fleet 0 0 1;claim 0 0 5;claim 0 1 7;claim 0 0 7;").due("dearest()", 1);
        // By CAP 1 each is worth as much.
        Office.of("cap 1;fleet 0 0 1;claim 0 0 5;claim 0 1 7;claim 0 0 9;").due("dearest()", 0);

        Edges.of(48, "-2: there are no CLAIMS.");
        Office.empty().due("dearest()", -2);
        o = Office.of("fleet 0 0;claim 0 0 1;");
        o.due("dearest()", 0);
        o.due("waive(0)", 1);
        o.due("dearest()", -2);
    }

    private static void dueLess(Office o, int fleet, int claim, int want) {
        long rate = o.ask("thousandths(" + fleet + ")");
        Due.is("less without claim " + claim, rate - o.ask("withoutClaim(" + fleet + ", " + claim + ")"), want);
    }
}
