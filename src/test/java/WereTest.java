/** Promises 37 to 48: what would be, were something else so; and nothing happens by asking. */
public final class WereTest {
    private static final int LOW = Integer.MIN_VALUE;
    private static final int HIGH = Integer.MAX_VALUE;
    private static final long NO_FRACTION = -1000000000L;
    /** As in AskedTest: BETWEEN 600, WITHIN 25 in class 0; RATES 15.207375, 49.472375, 9.625. */
    private static final String SAMPLE = "cap 50;steady 4;fleet 0 0 1;fleet 0 0 1;fleet 1 0 1 2 3;fleet 2;"
            + "claim 0 0 10;claim 0 1 20;claim 1 0 60;claim 1 1 50;claim 2 3 8;";
    /** One fleet alone has MEAN as its RATE. */
    private static final String ALONE = "fleet 0 0 1;fleet 2;claim 0 0 30;claim 0 1 60;";

    public static void main(String[] args) {
        shareBy();
        yearsFor();
        inClass();
        bestClass();
        byCap();
        capFor();
        early();
        earlyShare();
        withoutFleet();
        joined();
        withoutClaim();
        dearest();
        nothingHappens();
        Due.end("WereTest");
    }

    private static void shareBy() {
        FleetShares x = Due.made(SAMPLE);
        Due.is("600 by 625", x.shareBy(0, 1), 960);
        Due.is("1200 by 1225", x.shareBy(1, 2), 979);
        Due.is("59400 by 59425", x.shareBy(0, 99), 999);
        Due.is("BETWEEN is none", x.shareBy(2, 50), 0);
        Due.is("n is 0", x.shareBy(3, 5), -2);
        for (int[] wrong : new int[][] {{0, 0}, {0, 100}, {3, 0}, {3, 100}, {4, 1}, {-1, 1}, {LOW, HIGH}}) {
            Due.is("shareBy of no such ones", x.shareBy(wrong[0], wrong[1]), -1);
        }
    }

    private static void yearsFor() {
        FleetShares x = Due.made(SAMPLE);
        int[][] want = {{1, 1}, {960, 1}, {961, 2}, {979, 2}, {980, 3}, {986, 3}, {999, 42}, {1000, -2}};
        for (int[] w : want) {
            Due.is("yearsFor(0, " + w[0] + ")", x.yearsFor(0, w[0]), w[1]);
        }
        Due.is("BETWEEN is none", x.yearsFor(2, 1), -2);
        Due.is("n is 0", x.yearsFor(3, 1), -2);
        for (int[] wrong : new int[][] {{0, 0}, {0, 1001}, {3, 0}, {3, 1001}, {4, 1}, {-1, 1}, {LOW, HIGH}}) {
            Due.is("yearsFor of no such ones", x.yearsFor(wrong[0], wrong[1]), -1);
        }
        x = Due.made("fleet 0 0 1;fleet 0 0 1;claim 0 0 9;claim 0 1 9;");
        Due.is("WITHIN 0", x.yearsFor(1, 1000), 1);
        // BETWEEN is 5 by 8 of WITHIN: 61.875 by 62.875.
        x = Due.made("fleet 0 0 1;fleet 0 0 1 2 3;claim 0 0 65;");
        Due.is("the most n", x.yearsFor(0, 984), 99);
        Due.is("beyond the most n", x.yearsFor(0, 985), -2);
    }

    private static void inClass() {
        FleetShares x = Due.made(SAMPLE);
        Due.is("its own", x.inClass(0, 0), 15207);
        Due.is("alone elsewhere", x.inClass(2, 2), 9625);
        // Three fleets: WITHIN 19.6, BETWEEN 609.26, SHARES 984, 984, 992, Y 666, RATE 1.984 and .16479.
        Due.is("with two others", x.inClass(2, 0), 2148);
        Due.is("n is 0", x.inClass(3, 1), -2);
        for (int[] wrong : new int[][] {{0, -1}, {0, 3}, {3, 3}, {4, 0}, {-1, 0}, {LOW, HIGH}}) {
            Due.is("inClass of no such ones", x.inClass(wrong[0], wrong[1]), -1);
        }
        Due.is("it is where it was", x.of(2, 0), 1);
    }

    private static void bestClass() {
        FleetShares x = Due.made(SAMPLE);
        Due.is("bestClass(2)", x.bestClass(2), 0);
        Due.is("n is 0", x.bestClass(3), -2);
        for (int wrong : new int[] {-1, 4, LOW, HIGH}) {
            Due.is("bestClass(" + wrong + ")", x.bestClass(wrong), -1);
        }
        x = Due.made("fleet 2 0;");
        Due.is("of alike ones the least", x.bestClass(0), 0);
        // In class 0 it has 10, the mean of both; elsewhere 8 by Y 166, MEAN 4, and WHOLE 10.
        x = Due.made("fleet 0 0;fleet 0 1;claim 0 0 4;claim 1 1 16;");
        Due.is("inClass(0, 0)", x.inClass(0, 0), 10000);
        Due.is("inClass(0, 1)", x.inClass(0, 1), 9004);
        Due.is("of two alike the lesser", x.bestClass(0), 1);
        Due.is("for the dearer one", x.bestClass(1), 0);
    }

    private static void byCap() {
        FleetShares x = Due.made(ALONE);
        int[][] want = {{1, 1000}, {29, 29000}, {30, 30000}, {40, 35000}, {59, 44500}, {60, 45000}, {99, 45000}};
        for (int[] w : want) {
            Due.is("byCap(0, " + w[0] + ")", x.byCap(0, w[0]), w[1]);
        }
        Due.is("n is 0", x.byCap(1, 50), -2);
        for (int[] wrong : new int[][] {{0, 0}, {0, 100}, {1, 0}, {2, 1}, {-1, 1}, {LOW, HIGH}}) {
            Due.is("byCap of no such ones", x.byCap(wrong[0], wrong[1]), -1);
        }
        x.cap(40);
        Due.is("above CAP, too", x.byCap(0, 99), 45000);
        Due.is("CAP is as it was", x.count(2), 40);
        x.amend(1, 70);
        Due.is("behind an act", x.byCap(0, 99), 50000);
    }

    private static void capFor() {
        FleetShares x = Due.made("cap 7;" + ALONE);
        Due.is("capFor(0)", x.capFor(0), 60);
        Due.is("n is 0", x.capFor(1), -2);
        for (int wrong : new int[] {-1, 2, LOW, HIGH}) {
            Due.is("capFor(" + wrong + ")", x.capFor(wrong), -1);
        }
        Due.is("no claims", Due.made("fleet 0 0;").capFor(0), 1);
        Due.is("a claim of 99", Due.made("fleet 0 0;claim 0 0 99;").capFor(0), 99);
        x = Due.made("fleet 0 1 2;fleet 0 2;claim 1 2 98;claim 0 2 3;");
        Due.is("others between", x.capFor(0), 50);
        Due.is("byCap(0, 50)", x.byCap(0, 50), x.byCap(0, 99));
        Due.is("byCap(0, 60) is another one", x.byCap(0, 60) != x.byCap(0, 99), true);
    }

    private static void early() {
        FleetShares x = Due.made(ALONE);
        Due.is("early(0, 1)", x.early(0, 1), 30000);
        Due.is("early(0, 2)", x.early(0, 2), 45000);
        Due.is("early(0, 5)", x.early(0, 5), 45000);
        Due.is("n is 0", x.early(1, 5), -2);
        for (int[] wrong : new int[][] {{0, 0}, {0, 6}, {1, 0}, {1, 6}, {2, 1}, {-1, 1}, {LOW, HIGH}}) {
            Due.is("early of no such ones", x.early(wrong[0], wrong[1]), -1);
        }
        x = Due.made("fleet 0 3 4;fleet 1 0 3;claim 0 4 9;claim 1 0 4;claim 1 3 8;");
        Due.is("n is 0 then", x.early(0, 3), -2);
        Due.is("the other one then", x.early(1, 3), 4000);
        // Class 1 has N 2, Y 285, CENTRE 6; WHOLE 12 by 3 is 4.
        Due.is("others are ended, too", x.early(1, 4), 4570);
        Due.is("all is as it was", x.count(1), 3);
    }

    private static void earlyShare() {
        FleetShares x = Due.made("fleet 0 0 1 2 4;fleet 0 0 1;fleet 1 3;"
                + "claim 0 0 10;claim 0 1 20;claim 1 0 50;claim 1 1 50;claim 0 4 90;");
        // From year 2 on nobody: n 2 and 2, as in the sample.
        Due.is("earlyShare(0, 2)", x.earlyShare(0, 2), 979);
        Due.is("earlyShare(1, 2)", x.earlyShare(1, 2), 979);
        Due.is("WITHIN is none", x.earlyShare(0, 1), 0);
        Due.is("as it is", x.earlyShare(0, 5), x.of(0, 7));
        Due.is("n is 0 then", x.earlyShare(2, 3), -2);
        Due.is("alone", x.earlyShare(2, 4), 0);
        for (int[] wrong : new int[][] {{0, 0}, {0, 6}, {2, 0}, {3, 1}, {-1, 1}, {LOW, HIGH}}) {
            Due.is("earlyShare of no such ones", x.earlyShare(wrong[0], wrong[1]), -1);
        }
    }

    private static void withoutFleet() {
        FleetShares x = Due.made(SAMPLE);
        // Without fleet 0: BETWEEN is none; N 2, Y 333, CENTRE 50, WHOLE 108 by 6.
        Due.is("withoutFleet(1, 0)", x.withoutFleet(1, 0), 28656);
        Due.is("withoutFleet(0, 3)", x.withoutFleet(0, 3), 15207);
        // WHOLE is 130 by 4, as CENTRE: RATES .979 of MEAN and .021 of 32.5.
        Due.is("withoutFleet(0, 2)", x.withoutFleet(0, 2), 15367);
        Due.is("n is 0", x.withoutFleet(3, 0), -2);
        for (int[] wrong : new int[][] {{0, 0}, {3, 3}, {0, 4}, {0, -1}, {4, 0}, {-1, 0}, {LOW, HIGH}}) {
            Due.is("withoutFleet of no such ones", x.withoutFleet(wrong[0], wrong[1]), -1);
        }
        Due.is("all is as it was", x.count(0), 4);
    }

    private static void joined() {
        FleetShares x = Due.made(SAMPLE);
        String[] want = {"98/5", "30463/50", "8243/370"};
        for (int what = 0; what < 3; what++) {
            Due.is("joined(1, 0, " + what + ")",
                    Due.fraction(x.joined(1, 0, what, false), x.joined(1, 0, what, true)), want[what]);
        }
        for (int what = 0; what < 5; what++) {
            Due.is("a class without fleets with n, " + what, x.joined(2, 0, what, false), x.spread(0, what, false));
            Due.is("into it, " + what, x.joined(0, 2, what, true), x.spread(0, what, true));
        }
        Due.is("it is none", x.joined(2, 1, 1, false), NO_FRACTION);
        for (int[] wrong : new int[][] {{0, 0, 0}, {-1, 0, 0}, {3, 0, 0}, {0, -1, 0}, {0, 3, 0}, {0, 1, -1},
                {0, 1, 5}, {LOW, HIGH, 0}}) {
            Due.is("joined of no such ones", x.joined(wrong[0], wrong[1], wrong[2], false), NO_FRACTION);
            Due.is("joined of no such ones", x.joined(wrong[0], wrong[1], wrong[2], true), NO_FRACTION);
        }
        x = Due.made("fleet 0 0;claim 0 0 4;");
        Due.is("none in it", x.joined(1, 0, 2, false), 4);
        Due.is("none in both", x.joined(1, 2, 2, false), NO_FRACTION);
    }

    private static void withoutClaim() {
        FleetShares x = Due.made(ALONE);
        Due.is("withoutClaim(0, 0)", x.withoutClaim(0, 0), 30000);
        Due.is("withoutClaim(0, 1)", x.withoutClaim(0, 1), 15000);
        Due.is("n is 0", x.withoutClaim(1, 0), -2);
        for (int[] wrong : new int[][] {{0, 2}, {0, -1}, {1, 2}, {2, 0}, {-1, 0}, {LOW, HIGH}}) {
            Due.is("withoutClaim of no such ones", x.withoutClaim(wrong[0], wrong[1]), -1);
        }
        x = Due.made("steady 1;fleet 0 0;fleet 1 0;claim 0 0 8;claim 1 0 6;");
        // Y 500: half its own 8, half of WHOLE, which is 7, or 4 without the other one's claim.
        Due.is("as it is", x.thousandths(0), 7500);
        Due.is("another one's", x.withoutClaim(0, 1), 6000);
        Due.is("all is as it was", x.count(1), 2);
    }

    private static void dearest() {
        Due.is("no claims", Due.made("fleet 0 0;").dearest(), -2);
        Due.is("none at all", new FleetShares().dearest(), -2);
        Due.is("the greater one", Due.made(ALONE).dearest(), 1);
        Due.is("of alike ones the first", Due.made("fleet 0 0 1;claim 0 0 5;claim 0 1 7;claim 0 0 7;").dearest(), 1);
        Due.is("one is the one", Due.made("cap 1;fleet 0 0;claim 0 0 5;").dearest(), 0);
        // By STEADY 0 and alone a fleet has MEAN: the claims are worth 6, 7 and 3.
        Due.is("by what its own fleet has",
                Due.made("steady 0;fleet 0 0 1;fleet 1 0;fleet 2 0 1 2;claim 0 0 12;claim 1 0 7;claim 2 1 9;").dearest(), 1);
        FleetShares x = Due.made("fleet 0 0 2 3;fleet 0 0 2 3;fleet 0 0 1 2 3 4;fleet 0 1 2 4;"
                + "claim 0 2 31;claim 3 4 54;");
        Due.is("below 0", x.dearest(), 1);
        Due.is("by 200", x.thousandths(3) - x.withoutClaim(3, 1), -200);
        Due.is("the other one by more", x.thousandths(0) - x.withoutClaim(0, 0) < -200, true);
    }

    private static void nothingHappens() {
        FleetShares x = Due.made(SAMPLE);
        x.cap(40);
        String had = Due.held(x);
        x.shareBy(0, 5);
        x.yearsFor(0, 500);
        x.inClass(0, 2);
        x.bestClass(0);
        x.byCap(0, 5);
        x.capFor(0);
        x.early(0, 1);
        x.earlyShare(0, 1);
        x.withoutFleet(0, 1);
        x.joined(0, 1, 3, false);
        x.withoutClaim(0, 0);
        x.dearest();
        Due.is("held", Due.held(x), had);
        Due.is("acts", x.count(4), 1);
        Due.is("undo", x.undo(), 0);
        Due.is("undone", Due.held(x), SAMPLE);
    }
}
