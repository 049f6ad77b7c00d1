/** Boundary cases of "What it is" and of "Terms", but for those of a TEXT. */
final class TermsEdges {
    /** Two fleets full of claims, all of 7, and a third one that still could have some. */
    static final String FORTY = fortyClaims();
    /**
     * Fleet 0 lost 10, 20; fleet 1 50, 50; fleet 2 0, 0, 0, 8; fleet 3 has no years. Class 0: WITHIN 25, BETWEEN 600,
     * SHARES 1200 by 1225. RATES 15.207375, 49.472375, 9.625.
     */
    static final String SAMPLE = "cap 50;steady 4;fleet 0 0 1;fleet 0 0 1;fleet 1 0 1 2 3;fleet 2;"
            + "claim 0 0 10;claim 0 1 20;claim 1 0 60;claim 1 1 50;claim 2 3 8;";

    private TermsEdges() {
    }

    static void runAll() {
        use();
        limitsOfFleets();
        limitsOfClaims();
        limitsOfCapAndSteady();
        lossesAndFleetsLookedAt();
        withinAndBetween();
        sharesAndCentres();
        leastTerms();
        acts();
        were();
        noneAheadOfMissing();
    }

    private static String fortyClaims() {
        StringBuilder text = new StringBuilder("fleet 0 0 1 2 3 4;fleet 1 0 1 2 3 4;fleet 2 0;");
        for (int claim = 0; claim < 40; claim++) {
            text.append("claim " + claim / 20 + " " + claim % 5 + " 7;");
        }
        return text.toString();
    }

    private static void use() {
        Edges.of(Edges.USE, "An object is used for at most 512 calls after it has been made");
        Office o = Office.empty();
        for (int call = 1; call < 512; call++) {
            o.due("cap(" + (99 - call % 2) + ")", call == 1 ? 99 : 98 + call % 2);
        }
        o.due("undo()", 11);

        Edges.of(Edges.USE, "what later calls answer is free.");
        FleetShares x = new FleetShares();
        for (int call = 1; call <= 3000; call++) {
            // Any answer will do, but an answer there is.
            x.feed(call, call, call, call, call);
            x.fleet(call % 3, call % 32);
            x.claim(call % 8, call % 5, call % 99 + 1);
            x.dearest();
            x.undo();
        }
        Due.is("it still stands", x.count(0) >= 0, true);
    }

    private static void limitsOfFleets() {
        Edges.of(Edges.TERMS, "FLEETS 0, 1 .. (at most 8)");
        Office o = Office.empty();
        for (int fleet = 0; fleet < 8; fleet++) {
            o.due("fleet(1, " + fleet + ")", fleet);
        }
        o.refuses("fleet(1, 8)");
        o.due("of(0, 1)", 0);
        o.due("of(7, 1)", 7);
        o.due("of(8, 1)", -1);

        Edges.of(Edges.TERMS, "each in a CLASS (0 .. 2)");
        o = Office.empty();
        o.due("fleet(0, 1)", 0);
        o.due("fleet(2, 1)", 1);
        o.refuses("fleet(-1, 1)", "fleet(3, 1)", "move(0, -1)", "move(0, 3)");
        o.dueHeld("fleet 0 0;fleet 2 0;");
        o.due("group(0, 4)", 1);
        o.due("group(2, 4)", 2);

        Edges.of(Edges.TERMS, "INSURED in some of YEARS 0 .. 4 (none at first)");
        o = Office.of("fleet 0;");
        o.due("of(0, 1)", 0);
        o.due("of(0, 2)", 0);
        o.refuses("insure(0, -1)", "insure(0, 5)");
        o.due("insure(0, 0)", 1);
        o.due("insure(0, 4)", 2);
        o.dueHeld("fleet 0 0 4;");
    }

    private static void limitsOfClaims() {
        Edges.of(Edges.TERMS, "CLAIMS 0, 1 .. (at most 40) in the order in which they come");
        Office o = Office.of("fleet 0 0 1 2 3 4;fleet 1 0 1 2 3 4;fleet 2 0;");
        for (int claim = 0; claim < 40; claim++) {
            o.due("claim(" + claim % 2 + ", " + claim / 2 % 5 + ", " + (1 + claim) + ")", claim);
        }
        o.refuses("claim(2, 0, 41)");
        o.due("claimOf(0, 2)", 1);
        o.due("claimOf(39, 2)", 40);
        o.due("claimOf(40, 2)", -1);

        Edges.of(Edges.TERMS, "a YEAR in which it is INSURED");
        o = Office.of("fleet 0 1;fleet 1 2;fleet 2;");
        o.refuses("claim(0, 0, 5)", "claim(0, 2, 5)", "claim(1, 1, 5)", "claim(1, 3, 5)", "claim(2, 0, 5)");
        o.due("claim(0, 1, 5)", 0);
        o.due("claim(1, 2, 5)", 1);

        Edges.of(Edges.TERMS, "an AMOUNT (1 .. 99)");
        o = Office.of("fleet 0 1;");
        o.refuses("claim(0, 1, 0)", "claim(0, 1, 100)");
        o.due("claim(0, 1, 1)", 0);
        o.due("claim(0, 1, 99)", 1);
        o.dueHeld("fleet 0 1;claim 0 1 1;claim 0 1 99;");

        Edges.of(Edges.TERMS, "at most 4 of one FLEET and YEAR.");
        o = Office.of("fleet 0 0 1;fleet 0 0 1;");
        for (int claim = 0; claim < 4; claim++) {
            o.due("claim(0, 0, 9)", claim);
        }
        o.refuses("claim(0, 0, 9)");
        o.due("claim(0, 1, 9)", 4);
        o.due("claim(1, 0, 9)", 5);
    }

    private static void limitsOfCapAndSteady() {
        Edges.of(Edges.TERMS, "CAP (1 .. 99; 99 at first)");
        Office o = Office.empty();
        o.due("count(2)", 99);
        o.refuses("cap(0)", "cap(100)");
        o.due("cap(1)", 99);
        o.due("count(2)", 1);
        o.due("cap(99)", 1);
        o.due("count(2)", 99);

        Edges.of(Edges.TERMS, "STEADY (0 .. 50; 5 at first).");
        o = Office.empty();
        o.due("count(3)", 5);
        o.refuses("steady(-1)", "steady(51)");
        o.due("steady(0)", 5);
        o.due("count(3)", 0);
        o.due("steady(50)", 0);
        o.due("count(3)", 50);
    }

    private static void lossesAndFleetsLookedAt() {
        Edges.of(Edges.TERMS, "LOSS of a FLEET in a YEAR: its CLAIMS of that YEAR together, each CAP at most.");
        Office o = Office.of("cap 10;fleet 0 0 1;claim 0 0 9;claim 0 0 10;claim 0 0 11;claim 0 1 99;");
        o.due("loss(0, 0)", 29);
        o.due("loss(0, 1)", 10);
        o.due("cap(1)", 10);
        o.due("loss(0, 0)", 3);
        o.due("cap(99)", 1);
        o.due("loss(0, 0)", 30);
        o.due("loss(0, 1)", 99);

        Edges.of(Edges.TERMS, "Only FLEETS with n 1 or more are looked at in what follows.");
        o = Office.of("fleet 0 0 1;fleet 0;fleet 0 2;claim 0 0 9;claim 0 1 7;fleet 1;");
        o.due("group(0, 0)", 2);
        o.due("group(0, 1)", 3);
        o.due("group(1, 0)", 0);
        o.dueFraction("whole(", 16, 3);
        // 128 less 256 by 3 less once WITHIN, which is 2, by 4 by 3; with k 3 it would be 29.
        o.dueFraction("spread(0, 1", 61, 2);
        o.due("ranked(1)", 2);
        o.due("ranked(2)", -1);
    }

    private static void withinAndBetween() {
        Edges.of(Edges.TERMS, "by all n less 1 together; none, if those are 0.");
        Office o = Office.of("fleet 0 0;fleet 0 1;claim 0 0 9;fleet 1 0 1;fleet 1 0;claim 2 0 4;");
        o.dueFraction("spread(0, 0", -1000000000, -1000000000);
        o.dueFraction("spread(1, 0", 8, 1);
        o.dueFraction("spread(2, 0", -1000000000, -1000000000);

        Edges.of(Edges.TERMS, "0, if that is 0 or less");
        // Of two fleets with two years it is (S less S) squared, less both squared falls from year to year: 25 - 9 - 16.
        String falls = "fleet 0 0 1;fleet 0 0 1;claim 0 0 5;claim 0 1 2;claim 1 1 4;";
        o = Office.of(falls + "claim 1 0 8;");
        o.dueFraction("spread(0, 1", 0, 1);
        o.due("of(0, 7)", 0);
        // 36 - 9 - 25, by 8.
        o = Office.of(falls + "claim 1 0 9;");
        o.dueFraction("spread(0, 1", 1, 4);
        // 16 - 9 - 9, by 8, is below 0.
        o = Office.of(falls + "claim 1 0 7;");
        o.dueFraction("spread(0, 1", 0, 1);
        o.dueFraction("spread(0, 0", 9, 2);

        Edges.of(Edges.TERMS, "none, if k is below 2 or WITHIN is none.");
        o = Office.of("fleet 0 0 1;fleet 0;claim 0 0 9;fleet 1 0;fleet 1 1;claim 2 0 9;fleet 2 0 1;fleet 2 0;");
        o.dueFraction("spread(0, 1", -1000000000, -1000000000);
        o.dueFraction("spread(1, 1", -1000000000, -1000000000);
        o.dueFraction("spread(2, 1", 0, 1);
        Office.empty().dueFraction("spread(0, 1", -1000000000, -1000000000);
    }

    private static void sharesAndCentres() {
        Edges.of(Edges.TERMS, "SHARE of a FLEET, in thousandths, cut");
        Office o = Office.of(SAMPLE);
        o.due("of(0, 7)", 979);
        // Without spread within fleets it is whole.
        o = Office.of("fleet 0 0 1;fleet 0 0 1;claim 0 0 9;claim 0 1 9;");
        o.due("of(0, 7)", 1000);
        o.due("of(1, 7)", 1000);

        Edges.of(Edges.TERMS, "0, if BETWEEN is none or 0.");
        // Class 0: 0, and WITHIN 0, too; class 1: none, as it has one; class 2: none, as WITHIN is.
        o = Office.of("fleet 0 0 1;fleet 0 0 1;fleet 1 0 1;claim 2 0 9;fleet 2 0;fleet 2 1;claim 3 0 9;");
        for (int fleet = 0; fleet < 5; fleet++) {
            o.due("of(" + fleet + ", 7)", 0);
        }

        Edges.of(Edges.TERMS, "T by N, if all SHARES are 0.");
        o = Office.of("fleet 0 0 1;fleet 0 0;claim 0 0 4;");
        o.due("group(0, 5)", 0);
        o.dueFraction("spread(0, 2", 4, 3);
        // With SHARES, of n 4 and 2, it is (0 times 714 and 1 by 2 times 555) by 1269.
        o = Office.of("fleet 1 0 1 2 3 4;fleet 0 0 1 2 3;fleet 0 3 4;claim 2 4 1;");
        o.dueFraction("spread(0, 2", 185, 846);

        Edges.of(Edges.TERMS, "Y of a CLASS, in thousandths, cut");
        o = Office.of("fleet 0 0;fleet 1 0 1 2 3 4;");
        o.due("group(0, 3)", 166);
        o.due("group(1, 3)", 500);
        o.due("steady(0)", 5);
        o.due("group(0, 3)", 1000);
        o.due("steady(50)", 0);
        o.due("group(0, 3)", 19);
    }

    private static void leastTerms() {
        Edges.of(Edges.TERMS, "told in least terms (the lower part 1 or more; of 0 it is 1).");
        Office o = Office.of("fleet 0 0 1;fleet 0 0 1 2;");
        o.dueFraction("whole(", 0, 1);
        o.dueFraction("rate(0", 0, 1);
        for (int what = 0; what < 5; what++) {
            o.dueFraction("spread(0, " + what, 0, 1);
        }
        o = Office.of(SAMPLE);
        o.dueFraction("whole(", 69, 4);
        o.dueFraction("spread(0, 0", 25, 1);
        o.dueFraction("spread(0, 4", -1281, 2000);
        o.dueFraction("rate(0", 121659, 8000);
    }

    private static void acts() {
        Edges.of(Edges.TERMS, "ACTS, of which the latest 12 can be undone");
        Office o = Office.empty();
        for (int act = 1; act <= 13; act++) {
            o.due("cap(" + act + ")", act == 1 ? 99 : act - 1);
            o.due("count(4)", Math.min(act, 12));
        }
        o.refuses("cap(13)", "cap(0)", "fleet(3, 0)");
        for (int more = 11; more >= 0; more--) {
            o.due("undo()", more);
        }
        o.due("count(2)", 1);
        o.due("undo()", -1);
        o.due("count(2)", 1);
        for (int act = 20; act < 60; act++) {
            o.ask("cap(" + act + ")");
        }
        for (int more = 11; more >= 0; more--) {
            o.due("undo()", more);
            o.due("count(2)", 36 + 11 + more);
        }

        Edges.of(Edges.TERMS, "(text() forgets them)");
        o = Office.empty();
        o.due("cap(7)", 99);
        o.due("fleet(0, 1)", 0);
        o.due("count(4)", 2);
        o.due("text()", 0);
        o.due("count(4)", 0);
        o.due("undo()", -1);
        o.due("cap(7)", 99);
        o.due("undo()", 0);
        o.due("undo()", -1);
    }

    private static void were() {
        Edges.of(Edges.TERMS, "WERE: things are as they are but for what is told; nothing happens.");
        // The sample by acts alone: nothing stands as a text told it.
        Office o = Office.empty();
        String[] acts = {"steady(4)", "fleet(0, 3)", "fleet(0, 3)", "fleet(1, 15)", "fleet(2, 0)", "claim(0, 0, 10)",
            "claim(0, 1, 20)", "claim(1, 0, 60)", "claim(1, 1, 50)", "claim(2, 3, 8)", "cap(50)"};
        for (String act : acts) {
            Due.is(act + " is not refused", o.ask(act) >= 0, true);
        }
        o.feed("cap 7;");
        String had = o.state();
        dueInSample(o);
        Due.is("all behind these", o.state(), had);
        // In the same order again: none sees what another one has supposed.
        dueInSample(o);
        o.due("undo()", 10);
        o.due("count(2)", 99);
        o.due("text()", 0);
        o.due("count(2)", 7);
    }

    private static void dueInSample(Office o) {
        o.due("shareBy(0, 1)", 960);
        o.due("yearsFor(0, 980)", 3);
        // WITHIN 19.6, BETWEEN 609.26, SHARES 984, 984, 992, Y 666: 1.984 and .16479.
        o.due("inClass(2, 0)", 2148);
        o.due("bestClass(2)", 0);
        o.due("withoutFleet(1, 0)", 28656);
        // Half of 1 by 4, half of 5 by 8.
        o.due("byCap(2, 1)", 437);
        o.due("capFor(2)", 60);
        // .333 of 30, .667 of 20.
        o.due("early(0, 1)", 23330);
        o.due("earlyShare(0, 2)", 979);
        o.dueFraction("joined(1, 0, 0", 98, 5);
        o.due("withoutClaim(2, 4)", 8125);
        o.due("dearest()", 2);
        o.due("thousandths(0)", 15207);
        o.due("thousandths(1)", 49472);
        o.due("thousandths(2)", 9625);
    }

    private static void noneAheadOfMissing() {
        Edges.of(Edges.TERMS, "Where NONE and -2 could both be told, it is NONE, if it is not told otherwise.");
        // Fleet 3 has n 0, class 2 has N 0: what else is wrong is told first.
        Office o = Office.of(SAMPLE);
        o.dueOfEach(-1, "of(3, 8)", "of(3, -1)", "loss(3, 5)", "loss(3, -1)", "group(2, 6)", "group(2, -1)");
        o.dueOfEach(-1, "premium(3, 0)", "premium(3, 61)", "shareBy(3, 0)", "shareBy(3, 100)");
        o.dueOfEach(-1, "yearsFor(3, 0)", "yearsFor(3, 1001)", "inClass(3, -1)", "inClass(3, 3)");
        o.dueOfEach(-1, "byCap(3, 0)", "byCap(3, 100)", "early(3, 0)", "early(3, 6)");
        o.dueOfEach(-1, "earlyShare(3, 0)", "earlyShare(3, 6)", "withoutFleet(3, 3)", "withoutFleet(3, 4)");
        o.dueOfEach(-1, "withoutClaim(3, 5)", "withoutClaim(3, -1)", "report(4, 999)", "report(3, -2)");
        o.dueOfEach(-2, "of(3, 7)", "loss(3, 4)", "group(2, 3)", "premium(3, 1)", "shareBy(3, 1)", "yearsFor(3, 1)");
        o.dueOfEach(-2, "inClass(3, 0)", "byCap(3, 1)", "early(3, 1)", "earlyShare(3, 1)", "withoutFleet(3, 0)");
        o.dueOfEach(-2, "withoutClaim(3, 0)", "report(3, 999)");
    }
}
