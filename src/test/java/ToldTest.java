/** Promises 1 to 4: a new object, the tape, the text and its FAULT. */
public final class ToldTest {
    private static final String ALL_FLEETS = "fleet 0 0;".repeat(8);

    public static void main(String[] args) {
        newObject();
        feed();
        back();
        textStands();
        textTakesAllAnew();
        textForgetsActs();
        faultLeavesAllElse();
        faultsOfWords();
        faultsOfNumbers();
        faultsOfGapsAndEnds();
        faultsOfFleets();
        faultsOfClaims();
        faultsOfLimits();
        Due.end("ToldTest");
    }

    private static void newObject() {
        FleetShares x = new FleetShares();
        int[] want = {0, 0, 99, 5, 0, 0, 0, 0, 0};
        for (int what = 0; what < want.length; what++) {
            Due.is("new count(" + what + ")", x.count(what), want[what]);
        }
        Due.is("new spell", Due.spelled(x), "cap 99;steady 5;");
        FleetShares other = new FleetShares();
        other.fleet(1, 3);
        Due.is("objects are apart", x.count(0), 0);
    }

    private static void feed() {
        FleetShares x = new FleetShares();
        for (int i = 1; i <= 35; i++) {
            Due.is("feed " + i, x.feed(0x63617020, 0x373b2020, 0x20202020, 0x20202020, 0x20202020), 20 * i);
        }
        Due.is("feed beyond 700", x.feed(1, 1, 1, 1, 1), -1);
        Due.is("count(5) then", x.count(5), 700);
        Due.is("back(1)", x.back(1), 699);
        Due.is("feed beyond 700 by 19", x.feed(1, 1, 1, 1, 1), -1);
        Due.is("count(5) behind it", x.count(5), 699);
        Due.is("back(19)", x.back(19), 680);
        Due.is("feed to 700", x.feed(0x63617020, 0x383b2020, 0x20202020, 0x20202020, 0x20202020), 700);
        Due.is("text of 700", x.text(), 0);
        Due.is("the latest cap", x.count(2), 8);
        Due.is("the tape is empty", x.count(5), 0);
        // The highest byte of a comes first: a FAULT in each of the twenty is told at its place.
        for (int i = 0; i < 20; i++) {
            StringBuilder blanks = new StringBuilder(" ".repeat(20));
            blanks.setCharAt(i, (char) 200);
            Due.is("FAULT at " + i, Due.tell(x, blanks.toString()), -4 - i);
        }
    }

    private static void back() {
        FleetShares x = new FleetShares();
        Due.is("back(0) of none", x.back(0), 0);
        Due.is("back(1) of none", x.back(1), -1);
        x.feed(0, 0, 0, 0, 0);
        Due.is("back(-1)", x.back(-1), -1);
        Due.is("back(min)", x.back(Integer.MIN_VALUE), -1);
        Due.is("back(max)", x.back(Integer.MAX_VALUE), -1);
        Due.is("back(21)", x.back(21), -1);
        Due.is("back(0)", x.back(0), 20);
        Due.is("back(7)", x.back(7), 13);
        Due.is("back(13)", x.back(13), 0);
        Due.is("nothing is left", x.text(), 0);
        Due.put(x, "cap 5;");
        x.back(1);
        Due.is("what went is not read", x.text(), -9);
        Due.put(x, "cap 55;");
        x.back(2);
        Due.put(x, ";");
        Due.is("what comes stands behind what stayed", x.text(), 0);
        Due.is("cap then", x.count(2), 5);
    }

    private static void textStands() {
        FleetShares x = new FleetShares();
        Due.is("gaps", Due.tell(x, "\n cap\n07 ; steady  00;fleet 2\n4 00 4 1;claim 0\n4 \n09 ; \n"), 1);
        Due.is("gaps spelled", Due.spelled(x), "cap 7;steady 0;fleet 2 0 1 4;claim 0 4 9;");
        Due.is("blanks only", Due.tell(x, " \n "), 0);
        Due.is("blanks only spelled", Due.spelled(x), "cap 99;steady 5;");
        Due.is("the latest hold", Due.tell(x, "cap 1;cap 99;cap 3;steady 50;steady 2;"), 0);
        Due.is("the latest spelled", Due.spelled(x), "cap 3;steady 2;");
        Due.is("any order", Due.tell(x, "fleet 0 3;claim 0 3 1;fleet 1;steady 9;fleet 2 3;claim 2 3 99;cap 5;"), 3);
        Due.is("any order spelled", Due.spelled(x),
                "cap 5;steady 9;fleet 0 3;fleet 1;fleet 2 3;claim 0 3 1;claim 2 3 99;");
    }

    private static void textTakesAllAnew() {
        FleetShares x = Due.made("cap 9;steady 9;fleet 0 0;claim 0 0 5;");
        Due.is("anew", Due.tell(x, "fleet 1 2;"), 1);
        Due.is("anew spelled", Due.spelled(x), "cap 99;steady 5;fleet 1 2;");
    }

    private static void textForgetsActs() {
        FleetShares x = new FleetShares();
        x.fleet(0, 1);
        x.cap(5);
        Due.is("two acts", x.count(4), 2);
        Due.is("an empty text", x.text(), 0);
        Due.is("acts are forgotten", x.count(4), 0);
        Due.is("undo", x.undo(), -1);
        Due.is("all is anew", x.count(2), 99);
    }

    private static void faultLeavesAllElse() {
        FleetShares x = new FleetShares();
        x.fleet(1, 3);
        x.claim(0, 1, 8);
        x.cap(7);
        String had = Due.spelled(x);
        Due.is("FAULT", Due.tell(x, "cap 3;steady 3;fleet 0 1;claim 0 1 5;x"), -4 - 37);
        Due.is("all else stays", Due.spelled(x), had);
        Due.is("acts stay", x.count(4), 3);
        Due.is("the tape is empty", x.count(5), 0);
        Due.is("undo", x.undo(), 2);
        Due.is("undone", x.count(2), 99);
    }

    private static void fault(String text, int at) {
        FleetShares x = new FleetShares();
        Due.is("text '" + text + "'", Due.tell(x, text), -4 - at);
    }

    private static void faultsOfWords() {
        fault("x", 0);
        fault("ca", 0);
        fault(" capx 5;", 1);
        fault("caps", 0);
        fault("capcap 5;", 0);
        fault("capz 5;", 0);
        fault("capa 5;", 0);
        fault("xap 5;", 0);
        fault("cax 5;", 0);
        fault("ca{ 5;", 0);
        fault("cap` 5;", 3);
        fault("cap{ 5;", 3);
        fault("Cap 5;", 0);
        fault("5;", 0);
        fault(";", 0);
        fault("cap 5;\n;", 7);
        fault("cap 5;fleets 0;", 6);
        fault("cap cap 5;", 4);
        fault("cap\t5;", 3);
        fault("cap 5;\r", 6);
        fault("" + (char) 233, 0);
        fault("cap 5;" + (char) 0, 6);
        fault("fleet 0 fleet 0;", 8);
        fault("claim claim", 6);
    }

    private static void faultsOfNumbers() {
        fault("cap 0;", 4);
        fault("cap 00;", 4);
        fault("cap 100;", 4);
        fault("cap 005;", 4);
        fault("cap 99999999999999999999;", 4);
        fault("cap 4294967301;", 4);
        fault("cap -1;", 4);
        fault("steady 51;", 7);
        fault("steady 050;", 7);
        fault("fleet 3;", 6);
        fault("fleet 0 5;", 8);
        fault("fleet 0 1 2 12;", 12);
        fault("fleet 0 1 x;", 10);
    }

    private static void faultsOfGapsAndEnds() {
        fault("cap5;", 3);
        fault("fleet0;", 5);
        fault("claim0 0 1;", 5);
        fault("cap 5x;", 5);
        fault("cap 5 x;", 6);
        fault("cap 5 5;", 6);
        fault("cap;", 3);
        fault("cap ;", 4);
        fault("cap", 3);
        fault("cap \n", 5);
        fault("cap 5", 5);
        fault("cap 5 ", 6);
        fault("cap 0", 4);
        fault("fleet", 5);
        fault("fleet 0", 7);
        fault("fleet 0 1 ", 10);
        fault("cap 5;fleet 0 1;claim 0 1 5", 27);
    }

    private static void faultsOfFleets() {
        fault("claim 0 0 1;", 6);
        fault("fleet 0 0;claim 1 0 1;", 16);
        fault("claim 0 0 1;fleet 0 0;", 6);
        fault("fleet 0 0;claim 00 00 01;claim 01 0 1;", 31);
    }

    private static void faultsOfClaims() {
        fault("fleet 0 0 2;claim 0 1 5;", 20);
        fault("fleet 0 0 2;claim 0 5 5;", 20);
        fault("fleet 0 0 2;claim 0 2 0;", 22);
        fault("fleet 0 0 2;claim 0 2 100;", 22);
        fault("fleet 0 0 2;claim 0 2;", 21);
        fault("fleet 0 0 2;claim 0;", 19);
        fault("fleet 0 0 2;claim;", 17);
        fault("fleet 0 0 2;claim 0 2 5 5;", 24);
        fault("fleet 0 0 2;claim 0 1 0 0", 20);
    }

    private static void faultsOfLimits() {
        FleetShares x = new FleetShares();
        Due.is("eight fleets", Due.tell(x, ALL_FLEETS), 8);
        fault(ALL_FLEETS + " fleet 0;", 81);
        fault(ALL_FLEETS + "fleet9", 80);
        String four = "claim 0 0 1;".repeat(4);
        Due.is("four of one year", Due.tell(x, "fleet 0 0 1;" + four + "claim 0 1 1;"), 1);
        fault("fleet 0 0 1;" + four + "claim 0 0 1;", 68);
        fault("fleet 0 0 1;" + four + "claim 0 0", 68);
        StringBuilder forty = new StringBuilder("fleet 0 0 1 2 3 4;fleet 1 0 1 2 3 4;");
        for (int i = 0; i < 40; i++) {
            forty.append("claim " + i / 20 + " " + i % 5 + " 7;");
        }
        Due.is("forty claims", Due.tell(x, forty.toString()), 2);
        Due.is("forty claims counted", x.count(1), 40);
        fault(forty + " claim 0 0 1;", forty.length() + 1);
        fault(forty + "claim", forty.length());
    }
}
