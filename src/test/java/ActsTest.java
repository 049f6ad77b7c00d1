/** Promises 5 to 21: what each act changes, what it answers, when nothing happens, and undoing. */
public final class ActsTest {
    private static final int LOW = Integer.MIN_VALUE;
    private static final int HIGH = Integer.MAX_VALUE;
    private static final String TWO = "fleet 0 0 1;fleet 1 1 2;";
    private static final String BUSY = "fleet 0 0 1;fleet 1 1 2;fleet 2 0 4;"
            + "claim 0 0 10;claim 1 1 20;claim 2 4 30;claim 0 1 40;claim 1 2 50;claim 2 0 60;";

    public static void main(String[] args) {
        fleet();
        leave();
        move();
        insure();
        lapse();
        forget();
        claim();
        waive();
        amend();
        join();
        swap();
        scale();
        split();
        merge();
        cap();
        steady();
        undo();
        undoOfEachAct();
        Due.end("ActsTest");
    }

    /** The act has answered already: the text is then as told, one act more can be undone, and it is. */
    private static void changed(FleetShares x, String was, String now) {
        Due.is("held", Due.held(x), "cap 99;steady 5;" + now);
        Due.is("one act", x.count(4), 1);
        Due.is("undo", x.undo(), 0);
        Due.is("undone", Due.held(x), "cap 99;steady 5;" + was);
    }

    private static void unchanged(FleetShares x, String was) {
        Due.is("as it was", Due.held(x), "cap 99;steady 5;" + was);
        Due.is("no act", x.count(4), 0);
    }

    private static void fleet() {
        FleetShares x = new FleetShares();
        for (int[] wrong : new int[][] {{-1, 0}, {3, 0}, {0, -1}, {0, 32}, {LOW, HIGH}, {HIGH, LOW}}) {
            Due.is("fleet out of bounds", x.fleet(wrong[0], wrong[1]), -1);
        }
        unchanged(x, "");
        Due.is("fleet(2, 21)", x.fleet(2, 21), 0);
        changed(x, "", "fleet 2 0 2 4;");
        Due.is("fleet(0, 0)", x.fleet(0, 0), 0);
        changed(x, "", "fleet 0;");
        Due.is("fleet(1, 31)", x.fleet(1, 31), 0);
        changed(x, "", "fleet 1 0 1 2 3 4;");
        for (int i = 0; i < 8; i++) {
            Due.is("fleet " + i, x.fleet(i % 3, 31 - i), i);
        }
        Due.is("a ninth", x.fleet(0, 0), -1);
        Due.is("eight acts", x.count(4), 8);
        Due.is("eight", x.count(0), 8);
    }

    private static void leave() {
        FleetShares x = Due.made(BUSY);
        Due.is("leave(-1)", x.leave(-1), false);
        Due.is("leave(3)", x.leave(3), false);
        Due.is("leave(min)", x.leave(LOW), false);
        unchanged(x, BUSY);
        Due.is("leave(1)", x.leave(1), true);
        changed(x, BUSY, "fleet 0 0 1;fleet 2 0 4;claim 0 0 10;claim 1 4 30;claim 0 1 40;claim 1 0 60;");
        Due.is("leave(0)", x.leave(0), true);
        changed(x, BUSY, "fleet 1 1 2;fleet 2 0 4;claim 0 1 20;claim 1 4 30;claim 0 2 50;claim 1 0 60;");
        Due.is("leave(2)", x.leave(2), true);
        changed(x, BUSY, "fleet 0 0 1;fleet 1 1 2;claim 0 0 10;claim 1 1 20;claim 0 1 40;claim 1 2 50;");
    }

    private static void move() {
        FleetShares x = Due.made(TWO);
        for (int[] wrong : new int[][] {{-1, 0}, {2, 0}, {0, -1}, {0, 3}, {0, 0}, {1, 1}, {HIGH, LOW}}) {
            Due.is("move out of bounds", x.move(wrong[0], wrong[1]), -1);
        }
        unchanged(x, TWO);
        Due.is("move(1, 2)", x.move(1, 2), 1);
        changed(x, TWO, "fleet 0 0 1;fleet 2 1 2;");
    }

    private static void insure() {
        FleetShares x = Due.made(TWO);
        for (int[] wrong : new int[][] {{-1, 0}, {2, 0}, {0, -1}, {0, 5}, {0, 0}, {1, 1}, {0, 33}, {LOW, HIGH}}) {
            Due.is("insure out of bounds", x.insure(wrong[0], wrong[1]), -1);
        }
        unchanged(x, TWO);
        Due.is("insure(1, 0)", x.insure(1, 0), 3);
        changed(x, TWO, "fleet 0 0 1;fleet 1 0 1 2;");
    }

    private static void lapse() {
        FleetShares x = Due.made(BUSY + "claim 1 1 70;");
        for (int[] wrong : new int[][] {{-1, 0}, {3, 0}, {0, -1}, {0, 5}, {0, 2}, {1, 33}, {LOW, HIGH}}) {
            Due.is("lapse out of bounds", x.lapse(wrong[0], wrong[1]), -1);
        }
        unchanged(x, BUSY + "claim 1 1 70;");
        Due.is("lapse(1, 1)", x.lapse(1, 1), 2);
        changed(x, BUSY + "claim 1 1 70;", "fleet 0 0 1;fleet 1 2;fleet 2 0 4;"
                + "claim 0 0 10;claim 2 4 30;claim 0 1 40;claim 1 2 50;claim 2 0 60;");
        x = Due.made(TWO);
        Due.is("lapse without claims", x.lapse(0, 0), 0);
        changed(x, TWO, "fleet 0 1;fleet 1 1 2;");
    }

    private static void forget() {
        FleetShares x = Due.made(BUSY);
        for (int wrong : new int[] {-1, 3, 5, 32, LOW, HIGH}) {
            Due.is("forget(" + wrong + ")", x.forget(wrong), -1);
        }
        unchanged(x, BUSY);
        Due.is("forget(1)", x.forget(1), 2);
        changed(x, BUSY, "fleet 0 0;fleet 1 2;fleet 2 0 4;claim 0 0 10;claim 2 4 30;claim 1 2 50;claim 2 0 60;");
        Due.is("forget(4)", x.forget(4), 1);
        changed(x, BUSY, "fleet 0 0 1;fleet 1 1 2;fleet 2 0;"
                + "claim 0 0 10;claim 1 1 20;claim 0 1 40;claim 1 2 50;claim 2 0 60;");
    }

    private static void claim() {
        FleetShares x = Due.made(TWO);
        for (int[] wrong : new int[][] {{-1, 0, 1}, {2, 0, 1}, {0, 2, 1}, {0, -1, 1}, {0, 5, 1}, {0, 0, 0},
                {0, 0, 100}, {0, 32, 5}, {LOW, HIGH, 5}, {0, 0, LOW}}) {
            Due.is("claim out of bounds", x.claim(wrong[0], wrong[1], wrong[2]), -1);
        }
        unchanged(x, TWO);
        Due.is("claim(1, 2, 99)", x.claim(1, 2, 99), 0);
        changed(x, TWO, TWO + "claim 1 2 99;");
        for (int i = 0; i < 4; i++) {
            Due.is("claim " + i, x.claim(0, 0, 1 + i), i);
        }
        Due.is("a fifth", x.claim(0, 0, 9), -1);
        Due.is("another year", x.claim(0, 1, 9), 4);
        Due.is("another fleet", x.claim(1, 1, 9), 5);
        x = Due.made("fleet 0 0 1 2 3 4;fleet 0 0 1 2 3 4;fleet 1 0;");
        for (int i = 0; i < 40; i++) {
            Due.is("claim " + i, x.claim(i / 20, i % 5, 1), i);
        }
        Due.is("a forty-first", x.claim(2, 0, 1), -1);
        Due.is("forty", x.count(1), 40);
        x.undo();
        x.claim(1, 4, 1);
        Due.is("a forty-first is no act", x.claim(2, 0, 1) + x.count(4), 11);
        Due.is("waive of forty", x.waive(39), true);
        Due.is("the fortieth again", x.claim(2, 0, 1), 39);
    }

    private static void waive() {
        FleetShares x = Due.made(TWO + "claim 0 0 1;claim 1 2 2;claim 0 1 3;");
        for (int wrong : new int[] {-1, 3, LOW, HIGH}) {
            Due.is("waive(" + wrong + ")", x.waive(wrong), false);
        }
        unchanged(x, TWO + "claim 0 0 1;claim 1 2 2;claim 0 1 3;");
        Due.is("waive(1)", x.waive(1), true);
        changed(x, TWO + "claim 0 0 1;claim 1 2 2;claim 0 1 3;", TWO + "claim 0 0 1;claim 0 1 3;");
        Due.is("waive(2)", x.waive(2), true);
        changed(x, TWO + "claim 0 0 1;claim 1 2 2;claim 0 1 3;", TWO + "claim 0 0 1;claim 1 2 2;");
    }

    private static void amend() {
        FleetShares x = Due.made(TWO + "claim 0 0 1;claim 1 2 2;");
        for (int[] wrong : new int[][] {{-1, 5}, {2, 5}, {0, 0}, {0, 100}, {0, 1}, {1, 2}, {LOW, HIGH}}) {
            Due.is("amend out of bounds", x.amend(wrong[0], wrong[1]), -1);
        }
        unchanged(x, TWO + "claim 0 0 1;claim 1 2 2;");
        Due.is("amend(1, 99)", x.amend(1, 99), 2);
        changed(x, TWO + "claim 0 0 1;claim 1 2 2;", TWO + "claim 0 0 1;claim 1 2 99;");
    }

    private static void join() {
        String was = "fleet 0 0;fleet 1 1;fleet 0;";
        FleetShares x = Due.made(was);
        for (int[] wrong : new int[][] {{-1, 0}, {3, 0}, {0, -1}, {0, 3}, {0, 0}, {2, 0}, {LOW, HIGH}}) {
            Due.is("join out of bounds", x.join(wrong[0], wrong[1]), -1);
        }
        unchanged(x, was);
        Due.is("join(0, 2)", x.join(0, 2), 2);
        changed(x, was, "fleet 2 0;fleet 1 1;fleet 2;");
        Due.is("join(1, 0)", x.join(1, 0), 1);
        changed(x, was, "fleet 0 0;fleet 0 1;fleet 0;");
    }

    private static void swap() {
        FleetShares x = Due.made(BUSY);
        for (int[] wrong : new int[][] {{-1, 0}, {3, 0}, {0, -1}, {0, 3}, {1, 1}, {LOW, HIGH}}) {
            Due.is("swap out of bounds", x.swap(wrong[0], wrong[1]), false);
        }
        unchanged(x, BUSY);
        Due.is("swap(0, 2)", x.swap(0, 2), true);
        changed(x, BUSY, "fleet 2 0 4;fleet 1 1 2;fleet 0 0 1;"
                + "claim 2 0 10;claim 1 1 20;claim 0 4 30;claim 2 1 40;claim 1 2 50;claim 0 0 60;");
        x = Due.made("fleet 0;fleet 0;");
        Due.is("swap of alike ones is an act", x.swap(1, 0), true);
        Due.is("its count", x.count(4), 1);
    }

    private static void scale() {
        String was = "fleet 0 0 1;fleet 1 1;claim 0 0 1;claim 1 1 50;claim 0 0 3;claim 0 1 99;";
        FleetShares x = Due.made(was);
        for (int[] wrong : new int[][] {{-1, 50}, {2, 50}, {0, 0}, {0, 901}, {0, 100}, {LOW, HIGH}, {0, LOW}}) {
            Due.is("scale out of bounds", x.scale(wrong[0], wrong[1]), -1);
        }
        Due.is("scale that changes none", x.scale(1, 101), -1);
        unchanged(x, was);
        Due.is("scale(0, 50)", x.scale(0, 50), 2);
        changed(x, was, "fleet 0 0 1;fleet 1 1;claim 0 0 1;claim 1 1 50;claim 0 0 1;claim 0 1 49;");
        Due.is("scale(0, 900)", x.scale(0, 900), 2);
        changed(x, was, "fleet 0 0 1;fleet 1 1;claim 0 0 9;claim 1 1 50;claim 0 0 27;claim 0 1 99;");
        Due.is("scale(1, 1)", x.scale(1, 1), 1);
        changed(x, was, "fleet 0 0 1;fleet 1 1;claim 0 0 1;claim 1 1 1;claim 0 0 3;claim 0 1 99;");
        x = Due.made("fleet 0 0;fleet 0 1;claim 0 0 1;");
        Due.is("scale without claims", x.scale(1, 500), -1);
    }

    private static void split() {
        String was = "fleet 0 0 1 4;fleet 1 1;claim 0 0 1;claim 1 1 2;claim 0 4 3;claim 0 1 4;claim 0 0 5;";
        FleetShares x = Due.made(was);
        for (int[] wrong : new int[][] {{-1, 1}, {2, 1}, {0, 0}, {0, 19}, {0, 4}, {0, 5}, {1, 2}, {0, 33}, {0, -1},
                {LOW, HIGH}, {0, LOW}}) {
            Due.is("split out of bounds", x.split(wrong[0], wrong[1]), -1);
        }
        unchanged(x, was);
        Due.is("split(0, 17)", x.split(0, 17), 2);
        changed(x, was, "fleet 0 1;fleet 1 1;fleet 0 0 4;claim 2 0 1;claim 1 1 2;claim 2 4 3;claim 0 1 4;claim 2 0 5;");
        x = Due.made("fleet 2 0 1;".repeat(8));
        Due.is("split of eight", x.split(0, 1), -1);
        unchanged(x, "fleet 2 0 1;".repeat(8));
        x.leave(7);
        Due.is("split of seven", x.split(0, 1), 7);
        Due.is("its class", x.of(7, 0), 2);
    }

    private static void merge() {
        String was = "fleet 0 0 1;fleet 1 1 2;fleet 2 3;fleet 0 4;"
                + "claim 0 0 1;claim 2 3 2;claim 1 1 3;claim 3 4 4;claim 0 1 5;";
        FleetShares x = Due.made(was);
        for (int[] wrong : new int[][] {{-1, 0}, {4, 0}, {0, -1}, {0, 4}, {0, 0}, {0, 1}, {1, 0}, {LOW, HIGH}}) {
            Due.is("merge out of bounds", x.merge(wrong[0], wrong[1]), -1);
        }
        unchanged(x, was);
        Due.is("merge(0, 2)", x.merge(0, 2), 1);
        changed(x, was, "fleet 1 1 2;fleet 2 0 1 3;fleet 0 4;"
                + "claim 1 0 1;claim 1 3 2;claim 0 1 3;claim 2 4 4;claim 1 1 5;");
        Due.is("merge(2, 0)", x.merge(2, 0), 0);
        changed(x, was, "fleet 0 0 1 3;fleet 1 1 2;fleet 0 4;"
                + "claim 0 0 1;claim 0 3 2;claim 1 1 3;claim 2 4 4;claim 0 1 5;");
        x = Due.made("fleet 0;fleet 1;");
        Due.is("merge without years", x.merge(0, 1), 0);
        Due.is("merged", Due.held(x), "cap 99;steady 5;fleet 1;");
    }

    private static void cap() {
        FleetShares x = new FleetShares();
        for (int wrong : new int[] {0, 100, 99, -1, LOW, HIGH}) {
            Due.is("cap(" + wrong + ")", x.cap(wrong), -1);
        }
        Due.is("cap(1)", x.cap(1), 99);
        Due.is("cap(99)", x.cap(99), 1);
        Due.is("two acts", x.count(4), 2);
    }

    private static void steady() {
        FleetShares x = new FleetShares();
        for (int wrong : new int[] {-1, 51, 5, LOW, HIGH}) {
            Due.is("steady(" + wrong + ")", x.steady(wrong), -1);
        }
        Due.is("steady(0)", x.steady(0), 5);
        Due.is("steady(50)", x.steady(50), 0);
        Due.is("two acts", x.count(4), 2);
    }

    private static void undo() {
        FleetShares x = new FleetShares();
        Due.is("undo of none", x.undo(), -1);
        for (int i = 1; i <= 30; i++) {
            x.cap(i);
            Due.is("acts", x.count(4), Math.min(i, 12));
        }
        for (int i = 1; i <= 12; i++) {
            Due.is("undo " + i, x.undo(), 12 - i);
            Due.is("cap then", x.count(2), 30 - i);
        }
        Due.is("a thirteenth", x.undo(), -1);
        Due.is("cap stays", x.count(2), 18);
        x.steady(1);
        x.steady(2);
        Due.is("undo", x.undo(), 1);
        Due.is("an undo is no act", x.count(4), 1);
        x.steady(3);
        Due.is("undo to 1", x.undo(), 1);
        Due.is("steady 1", x.count(3), 1);
        Due.is("undo to 5", x.undo(), 0);
        Due.is("steady 5", x.count(3), 5);
        x.feed(1, 2, 3, 4, 5);
        x.cap(50);
        Due.is("undo beside a tape", x.undo(), 0);
        Due.is("the tape stays", x.count(5), 20);
    }

    /** What is due behind each undo is asked of other objects, which did only the acts ahead of it. */
    private static void undoOfEachAct() {
        FleetShares x = Due.made(BUSY);
        String[] texts = new String[12];
        for (int act = 0; act < 12; act++) {
            texts[act] = Due.held(behindActs(act));
            doAct(x, act);
            Due.is("acts then", x.count(4), act + 1);
        }
        for (int act = 11; act >= 0; act--) {
            Due.is("undo", x.undo(), act);
            Due.is("undone to act " + act, Due.held(x), texts[act]);
        }
    }

    private static FleetShares behindActs(int acts) {
        FleetShares x = Due.made(BUSY);
        for (int act = 0; act < acts; act++) {
            doAct(x, act);
        }
        return x;
    }

    private static void doAct(FleetShares x, int act) {
        switch (act) {
            case 0 -> x.fleet(1, 24);
            case 1 -> x.claim(3, 4, 77);
            case 2 -> x.split(3, 8);
            case 3 -> x.merge(3, 1);
            case 4 -> x.scale(1, 150);
            case 5 -> x.swap(0, 1);
            case 6 -> x.leave(2);
            case 7 -> x.forget(1);
            case 8 -> x.join(1, 0);
            case 9 -> x.insure(0, 0);
            case 10 -> x.waive(0);
            default -> x.cap(11);
        }
    }
}
