/** Promises 22 to 36: what is asked of fleets, claims, classes and years; most numbers are worked by hand. */
public final class AskedTest {
    private static final int LOW = Integer.MIN_VALUE;
    private static final int HIGH = Integer.MAX_VALUE;
    private static final long NO_FRACTION = -1000000000L;
    /**
     * Fleet 0 lost 10, 20; fleet 1 50, 50; fleet 2 0, 0, 0, 8; fleet 3 has no years. Class 0: WITHIN 50 by 2,
     * BETWEEN (5450 - 4225 - 25) by 2, SHARES 1200 by 1225. RATES 15.207375, 49.472375, 9.625.
     */
    private static final String SAMPLE = "cap 50;steady 4;fleet 0 0 1;fleet 0 0 1;fleet 1 0 1 2 3;fleet 2;"
            + "claim 0 0 10;claim 0 1 20;claim 1 0 60;claim 1 1 50;claim 2 3 8;";

    public static void main(String[] args) {
        of();
        loss();
        claimOf();
        group();
        spread();
        spreadAtEdges();
        whole();
        rate();
        thousandths();
        ranked();
        rankedOfAlikeThousandths();
        rankedOfAlikeWholes();
        greatest();
        worst();
        dearestOf();
        claimsIn();
        gap();
        premium();
        Due.end("AskedTest");
    }

    private static void of() {
        FleetShares x = Due.made(SAMPLE);
        int[][] want = {
            {0, 3, 2, 30, 500, 2, 0, 979},
            {0, 3, 2, 100, 5000, 2, 1, 979},
            {1, 15, 4, 8, 64, 1, 0, 0},
            {2, 0, 0, 0, 0, 0, 0, -2},
        };
        for (int fleet = 0; fleet < 4; fleet++) {
            for (int what = 0; what < 8; what++) {
                Due.is("of(" + fleet + ", " + what + ")", x.of(fleet, what), want[fleet][what]);
            }
        }
        for (int[] wrong : new int[][] {{-1, 0}, {4, 0}, {0, -1}, {0, 8}, {3, 8}, {LOW, 0}, {HIGH, 0}, {0, LOW}}) {
            Due.is("of no such ones", x.of(wrong[0], wrong[1]), -1);
        }
        x = Due.made("fleet 0 0 1;fleet 0 0 1;claim 0 0 9;claim 0 1 9;");
        Due.is("a share without spread within", x.of(0, 7), 1000);
        Due.is("of 0, too", x.of(1, 7), 1000);
        x = Due.made("fleet 0 0 1;fleet 0 0 1;claim 0 0 9;claim 1 1 9;");
        Due.is("a share where BETWEEN is below 0", x.of(0, 7), 0);
        x = Due.made("fleet 0 0;fleet 0 1;claim 0 0 9;");
        Due.is("a share where WITHIN is none", x.of(0, 7), 0);
        x = Due.made("cap 8;fleet 0 0;fleet 1 0;claim 0 0 9;claim 1 0 8;claim 1 0 9;claim 0 0 10;");
        Due.is("above CAP from the first claim on", x.of(0, 6), 2);
        Due.is("CAP itself is not above it", x.of(1, 6), 1);
    }

    private static void loss() {
        FleetShares x = Due.made(SAMPLE + "claim 1 0 99;claim 1 0 2;");
        Due.is("loss of three claims", x.loss(1, 0), 102);
        Due.is("loss(2, 3)", x.loss(2, 3), 8);
        Due.is("loss without claims", x.loss(2, 0), 0);
        Due.is("loss not insured", x.loss(0, 2), -2);
        Due.is("loss of fleet 3", x.loss(3, 4), -2);
        for (int[] wrong : new int[][] {{-1, 0}, {4, 0}, {0, -1}, {0, 5}, {3, 5}, {LOW, HIGH}, {0, 32}}) {
            Due.is("loss of no such ones", x.loss(wrong[0], wrong[1]), -1);
        }
    }

    private static void claimOf() {
        FleetShares x = Due.made(SAMPLE);
        int[][] want = {{0, 0, 10, 10}, {0, 1, 20, 20}, {1, 0, 60, 50}, {1, 1, 50, 50}, {2, 3, 8, 8}};
        for (int claim = 0; claim < 5; claim++) {
            for (int what = 0; what < 4; what++) {
                Due.is("claimOf(" + claim + ", " + what + ")", x.claimOf(claim, what), want[claim][what]);
            }
        }
        for (int[] wrong : new int[][] {{-1, 0}, {5, 0}, {0, -1}, {0, 4}, {LOW, HIGH}, {HIGH, LOW}}) {
            Due.is("claimOf no such ones", x.claimOf(wrong[0], wrong[1]), -1);
        }
    }

    private static void group() {
        FleetShares x = Due.made(SAMPLE);
        int[][] want = {{2, 4, 130, 500, 3, 1958}, {1, 4, 8, 500, 4, 0}, {0, 0, 0, -2, 8, 0}};
        for (int cls = 0; cls < 3; cls++) {
            for (int what = 0; what < 6; what++) {
                Due.is("group(" + cls + ", " + what + ")", x.group(cls, what), want[cls][what]);
            }
        }
        for (int[] wrong : new int[][] {{-1, 0}, {3, 0}, {0, -1}, {0, 6}, {LOW, HIGH}, {2, HIGH}}) {
            Due.is("group of no such ones", x.group(wrong[0], wrong[1]), -1);
        }
        x.steady(0);
        Due.is("Y by steady 0", x.group(0, 3), 1000);
        Due.is("Y by steady 0 without N", x.group(2, 3), -2);
        x.steady(50);
        Due.is("Y by steady 50", x.group(0, 3), 74);
        x.insure(3, 4);
        Due.is("k then", x.group(2, 0), 1);
        Due.is("Y of one year", x.group(2, 3), 19);
    }

    private static String spreadOf(FleetShares x, int cls, int what) {
        return Due.fraction(x.spread(cls, what, false), x.spread(cls, what, true));
    }

    private static final String NOTHING = Due.fraction(NO_FRACTION, NO_FRACTION);

    private static void spread() {
        FleetShares x = Due.made(SAMPLE);
        String[][] want = {
            {"25/1", "600/1", "65/2", "199/8", "-1281/2000"},
            {"16/1", NOTHING, "2/1", "77/8", "61/2"},
            {NOTHING, NOTHING, NOTHING, NOTHING, NOTHING},
        };
        for (int cls = 0; cls < 3; cls++) {
            for (int what = 0; what < 5; what++) {
                Due.is("spread(" + cls + ", " + what + ")", spreadOf(x, cls, what), want[cls][what]);
            }
        }
        for (int[] wrong : new int[][] {{-1, 0}, {3, 0}, {0, -1}, {0, 5}, {LOW, HIGH}, {HIGH, 2}}) {
            Due.is("spread of no such ones", spreadOf(x, wrong[0], wrong[1]), NOTHING);
        }
    }

    private static void spreadAtEdges() {
        FleetShares x = Due.made("fleet 0 0;fleet 0 1;claim 0 0 9;");
        Due.is("WITHIN is none by n 1", spreadOf(x, 0, 0), NOTHING);
        Due.is("BETWEEN is none then", spreadOf(x, 0, 1), NOTHING);
        Due.is("CENTRE is T by N", spreadOf(x, 0, 2), "9/2");
        Due.is("OFF is 0", spreadOf(x, 0, 4), "0/1");
        x = Due.made("fleet 0 0 1;fleet 0 0 1;claim 0 0 9;claim 1 1 9;");
        Due.is("WITHIN 40.5 and 40.5 by 2", spreadOf(x, 0, 0), "81/2");
        Due.is("BETWEEN below 0 is 0", spreadOf(x, 0, 1), "0/1");
        x = Due.made("fleet 0 0 1;fleet 0 0 1;claim 0 0 9;claim 0 1 9;");
        Due.is("WITHIN 0", spreadOf(x, 0, 0), "0/1");
        Due.is("BETWEEN (162 - 81) by 2", spreadOf(x, 0, 1), "81/2");
        Due.is("CENTRE by whole shares", spreadOf(x, 0, 2), "9/2");
        // n 4 and 2, S 0 and 1: WITHIN 1/2 by 4; BETWEEN (1/2 - 1/6 - 1/8) by 8/3; SHARES 714, 555.
        x = Due.made("fleet 1 0 1 2 3 4;fleet 0 0 1 2 3;fleet 0 3 4;claim 2 4 1;");
        Due.is("WITHIN of uneven n", spreadOf(x, 0, 0), "1/8");
        Due.is("BETWEEN of uneven n", spreadOf(x, 0, 1), "5/64");
        Due.is("CENTRE of uneven shares", spreadOf(x, 0, 2), "185/846");
        Due.is("CENTRE 0", spreadOf(x, 1, 2), "0/1");
        Due.is("BASE of it", spreadOf(x, 1, 3), "1/22");
    }

    private static void whole() {
        FleetShares x = new FleetShares();
        Due.is("whole of none", Due.fraction(x.whole(false), x.whole(true)), NOTHING);
        x.fleet(0, 0);
        Due.is("whole without years", Due.fraction(x.whole(false), x.whole(true)), NOTHING);
        x.fleet(1, 5);
        Due.is("whole of 0", Due.fraction(x.whole(false), x.whole(true)), "0/1");
        x = Due.made(SAMPLE);
        Due.is("whole", Due.fraction(x.whole(false), x.whole(true)), "69/4");
    }

    private static void rate() {
        FleetShares x = Due.made(SAMPLE);
        String[] want = {"121659/8000", "395779/8000", "77/8", NOTHING, NOTHING};
        for (int fleet = 0; fleet < 5; fleet++) {
            Due.is("rate(" + fleet + ")", Due.fraction(x.rate(fleet, false), x.rate(fleet, true)), want[fleet]);
        }
        for (int wrong : new int[] {-1, 8, LOW, HIGH}) {
            Due.is("rate(" + wrong + ")", x.rate(wrong, false), NO_FRACTION);
        }
    }

    private static void thousandths() {
        FleetShares x = Due.made(SAMPLE);
        int[] want = {15207, 49472, 9625, -2, -1};
        for (int fleet = 0; fleet < 5; fleet++) {
            Due.is("thousandths(" + fleet + ")", x.thousandths(fleet), want[fleet]);
        }
        for (int wrong : new int[] {-1, 8, LOW, HIGH}) {
            Due.is("thousandths(" + wrong + ")", x.thousandths(wrong), -1);
        }
        StringBuilder most = new StringBuilder("fleet 0 0 1 2 3 4;fleet 0 0 1 2 3 4;");
        for (int i = 0; i < 40; i++) {
            most.append("claim " + i / 20 + " " + i % 5 + " 99;");
        }
        Due.is("the greatest rate", Due.made(most.toString()).thousandths(1), 396000);
    }

    private static void ranked() {
        FleetShares x = Due.made(SAMPLE);
        int[] want = {1, 0, 2, -1};
        for (int k = 0; k < 4; k++) {
            Due.is("ranked(" + k + ")", x.ranked(k), want[k]);
        }
        for (int wrong : new int[] {-1, LOW, HIGH}) {
            Due.is("ranked(" + wrong + ")", x.ranked(wrong), -1);
        }
        x = Due.made("fleet 2;fleet 0 0;fleet 1 0;fleet 0 1;");
        for (int k = 0; k < 3; k++) {
            Due.is("ranked alike(" + k + ")", x.ranked(k), k + 1);
        }
        Due.is("ranked(3) of three with years", x.ranked(3), -1);
    }

    private static void rankedOfAlikeThousandths() {
        // Rates 1/22 and a little more than .0459: both 45 thousandths.
        FleetShares x = Due.made("fleet 1 0 1 2 3 4;fleet 0 0 1 2 3;fleet 0 3 4;claim 2 4 1;");
        Due.is("thousandths(0)", x.thousandths(0), 45);
        Due.is("thousandths(1)", x.thousandths(1), 45);
        Due.is("ranked(0)", x.ranked(0), 2);
        Due.is("ranked(1)", x.ranked(1), 1);
        Due.is("ranked(2)", x.ranked(2), 0);
    }

    /** By STEADY 0 a fleet alone in its class has MEAN as its RATE: 5, 11 by 2 and 21 by 4 in all orders. */
    private static void rankedOfAlikeWholes() {
        String[] fleets = {"0;", "0 1;", "0 1 2 3;"};
        int[] sums = {5, 11, 21};
        int[][] orders = {{0, 1, 2}, {0, 2, 1}, {1, 0, 2}, {1, 2, 0}, {2, 0, 1}, {2, 1, 0}};
        for (int[] order : orders) {
            StringBuilder text = new StringBuilder("steady 0;");
            for (int cls = 0; cls < 3; cls++) {
                text.append("fleet " + cls + " " + fleets[order[cls]]);
            }
            for (int cls = 0; cls < 3; cls++) {
                text.append("claim " + cls + " 0 " + sums[order[cls]] + ";");
            }
            FleetShares x = Due.made(text.toString());
            Due.is("the greatest, 11 by 2", order[x.ranked(0)], 1);
            Due.is("then 21 by 4", order[x.ranked(1)], 2);
            Due.is("then 5", order[x.ranked(2)], 0);
        }
    }

    private static void greatest() {
        FleetShares x = Due.made("cap 5;fleet 0 0 1;fleet 1 0;"
                + "claim 0 0 7;claim 1 0 99;claim 0 1 9;claim 0 1 7;claim 0 0 50;");
        int[] want = {4, 2, 0, 3, -1};
        for (int k = 0; k < 5; k++) {
            Due.is("greatest(0, " + k + ")", x.greatest(0, k), want[k]);
        }
        Due.is("greatest(1, 0)", x.greatest(1, 0), 1);
        for (int[] wrong : new int[][] {{-1, 0}, {2, 0}, {0, -1}, {1, 1}, {LOW, HIGH}, {HIGH, LOW}}) {
            Due.is("greatest of no such ones", x.greatest(wrong[0], wrong[1]), -1);
        }
    }

    private static void worst() {
        FleetShares x = Due.made("fleet 0 1;fleet 1 0 1;fleet 2 0 1 2;fleet 0 0;"
                + "claim 1 0 5;claim 2 0 4;claim 2 0 3;claim 3 0 7;");
        Due.is("worst(0), of alike ones the first", x.worst(0), 2);
        Due.is("worst(1), all 0", x.worst(1), 0);
        Due.is("worst(2)", x.worst(2), 2);
        Due.is("worst(3)", x.worst(3), -2);
        x.cap(3);
        Due.is("worst(0) by cap 3", x.worst(0), 2);
        for (int wrong : new int[] {-1, 5, LOW, HIGH}) {
            Due.is("worst(" + wrong + ")", x.worst(wrong), -1);
        }
    }

    private static void dearestOf() {
        FleetShares x = Due.made(SAMPLE);
        Due.is("dearestOf(0)", x.dearestOf(0), 1);
        Due.is("dearestOf(1)", x.dearestOf(1), 2);
        Due.is("dearestOf(2)", x.dearestOf(2), -2);
        for (int wrong : new int[] {-1, 3, LOW, HIGH}) {
            Due.is("dearestOf(" + wrong + ")", x.dearestOf(wrong), -1);
        }
        x = Due.made("fleet 0;fleet 0 0;fleet 0 0;");
        Due.is("dearestOf alike", x.dearestOf(0), 1);
        x = Due.made("fleet 0 0 1;fleet 0 0 1;claim 0 0 9;claim 0 1 9;");
        Due.is("dearestOf the first", x.dearestOf(0), 0);
    }

    private static void claimsIn() {
        FleetShares x = Due.made(SAMPLE);
        int[] want = {2, 2, 0, 1, 0};
        for (int year = 0; year < 5; year++) {
            Due.is("claimsIn(" + year + ")", x.claimsIn(year), want[year]);
        }
        for (int wrong : new int[] {-1, 5, LOW, HIGH}) {
            Due.is("claimsIn(" + wrong + ")", x.claimsIn(wrong), -1);
        }
    }

    private static void gap() {
        FleetShares x = Due.made(SAMPLE);
        Due.is("gap(0, 1)", x.gap(0, 1), -34265);
        Due.is("gap(1, 0)", x.gap(1, 0), 34265);
        Due.is("gap(2, 2)", x.gap(2, 2), 0);
        Due.is("gap of 0", Due.made("fleet 0 0;fleet 1 0;").gap(0, 1), 0);
        for (int[] wrong : new int[][] {{0, 3}, {3, 0}, {3, 3}, {-1, 0}, {0, -1}, {4, 0}, {0, 4}, {LOW, HIGH}}) {
            Due.is("gap of no such ones", x.gap(wrong[0], wrong[1]), -1000000);
        }
    }

    private static void premium() {
        FleetShares x = Due.made(SAMPLE);
        Due.is("premium(0, 1)", x.premium(0, 1), 1267);
        Due.is("premium(0, 12)", x.premium(0, 12), 15207);
        Due.is("premium(0, 60)", x.premium(0, 60), 76035);
        Due.is("premium(3, 60)", x.premium(3, 60), -2);
        for (int[] wrong : new int[][] {{0, 0}, {0, 61}, {3, 0}, {3, 61}, {4, 1}, {-1, 1}, {LOW, HIGH}, {0, LOW}}) {
            Due.is("premium of no such ones", x.premium(wrong[0], wrong[1]), -1);
        }
    }
}
