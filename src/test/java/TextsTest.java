/** Promises 49 to 51: report, spell, count. */
public final class TextsTest {
    private static final int LOW = Integer.MIN_VALUE;
    private static final int HIGH = Integer.MAX_VALUE;
    private static final String SAMPLE = "cap 50;steady 4;fleet 0 0 1;fleet 0 0 1;fleet 1 0 1 2 3;fleet 2;"
            + "claim 0 0 10;claim 0 1 20;claim 1 0 60;claim 1 1 50;claim 2 3 8;";

    public static void main(String[] args) {
        report();
        spell();
        spellOfTheMost();
        count();
        Due.end("TextsTest");
    }

    private static void report() {
        FleetShares x = Due.made(SAMPLE);
        String[] want = {
            "fleet 0 class 0 years 2 share 979 rate 15207;",
            "fleet 1 class 0 years 2 share 979 rate 49472;",
            "fleet 2 class 1 years 4 share 0 rate 9625;",
            "fleet 3 class 2 years 0;",
        };
        for (int fleet = 0; fleet < 4; fleet++) {
            int length = want[fleet].length();
            Due.is("report(" + fleet + ")", Due.reported(x, fleet), want[fleet]);
            Due.is("its length", x.report(fleet, -1), length);
            Due.is("behind its end", x.report(fleet, length), -2);
            Due.is("far behind its end", x.report(fleet, HIGH), -2);
            Due.is("i below NONE", x.report(fleet, -2), -1);
            Due.is("i far below NONE", x.report(fleet, LOW), -1);
        }
        for (int wrong : new int[] {-1, 4, LOW, HIGH}) {
            Due.is("report(" + wrong + ", 0)", x.report(wrong, 0), -1);
            Due.is("report(" + wrong + ", 999)", x.report(wrong, 999), -1);
        }
        x = Due.made("fleet 0 0;");
        Due.is("a rate of 0", Due.reported(x, 0), "fleet 0 class 0 years 1 share 0 rate 0;");
        x = Due.made("fleet 0 0 1;fleet 0 0 1;claim 0 0 90;claim 0 0 90;claim 0 1 90;claim 0 1 90;");
        Due.is("a long one", Due.reported(x, 0), "fleet 0 class 0 years 2 share 1000 rate 180000;");
    }

    private static void spell() {
        FleetShares x = Due.made(SAMPLE);
        Due.is("spell()", Due.spelled(x), SAMPLE);
        Due.is("its length", x.spell(-1), SAMPLE.length());
        Due.is("its last byte", x.spell(SAMPLE.length() - 1), ';');
        Due.is("behind its end", x.spell(SAMPLE.length()), -2);
        Due.is("far behind its end", x.spell(HIGH), -2);
        Due.is("i below NONE", x.spell(-2), -1);
        Due.is("i far below NONE", x.spell(LOW), -1);
        x = new FleetShares();
        x.fleet(2, 22);
        x.insure(0, 0);
        x.steady(0);
        Due.is("years rising", Due.spelled(x), "cap 99;steady 0;fleet 2 0 1 2 4;");
    }

    /** The longest text of all still goes on a tape, and comes back as it was. */
    private static void spellOfTheMost() {
        StringBuilder text = new StringBuilder("cap 98;steady 50;");
        for (int fleet = 0; fleet < 8; fleet++) {
            text.append("fleet " + fleet % 3 + " 0 1 2 3 4;");
        }
        for (int claim = 0; claim < 40; claim++) {
            text.append("claim " + claim / 5 + " " + claim % 5 + " " + (99 - claim) + ";");
        }
        Due.is("the most", text.length(), 681);
        FleetShares x = Due.made(text.toString());
        StringBuilder told = new StringBuilder();
        for (int i = 600; i < 681; i++) {
            told.append((char) x.spell(i));
        }
        Due.is("its length", x.spell(-1), 681);
        Due.is("its end", told.toString(), text.substring(600));
        Due.is("behind it", x.spell(681), -2);
    }

    private static void count() {
        FleetShares x = Due.made(SAMPLE);
        x.steady(7);
        x.amend(3, 51);
        x.feed(0, 0, 0, 0, 0);
        int[] want = {4, 5, 50, 7, 2, 20, 2, 1, 15};
        for (int what = 0; what < want.length; what++) {
            Due.is("count(" + what + ")", x.count(what), want[what]);
        }
        for (int wrong : new int[] {-1, 9, LOW, HIGH}) {
            Due.is("count(" + wrong + ")", x.count(wrong), -1);
        }
        x = Due.made("cap 4;fleet 1;fleet 0 4;fleet 0;claim 1 4 5;claim 1 4 4;claim 1 4 9;");
        Due.is("claims above CAP", x.count(6), 2);
        Due.is("fleets with n 0", x.count(7), 2);
        x.swap(0, 1);
        Due.is("years", x.count(8), 16);
        Due.is("claims above CAP then", x.count(6), 2);
    }
}
