import java.nio.charset.StandardCharsets;
import java.util.Arrays;

/** What the project's tests share: counting wrong answers, and feeding and reading texts. */
final class Due {
    private static int asked = 0;
    private static int wrong = 0;
    private static String heading = "";

    private Due() {
    }

    /** What stands ahead of each wrong answer from now on. */
    static void under(String newHeading) {
        heading = newHeading;
    }

    static void is(String call, long got, long want) {
        asked++;
        if (got != want) {
            wrong++;
            System.out.println(heading + call + " answered " + got + ", due is " + want);
        }
    }

    static void is(String call, boolean got, boolean want) {
        is(call, got ? 1L : 0L, want ? 1L : 0L);
    }

    static void is(String call, String got, String want) {
        asked++;
        if (!got.equals(want)) {
            wrong++;
            System.out.println(heading + call + " answered '" + got + "', due is '" + want + "'");
        }
    }

    /** Says how it went, and ends the test. */
    static void end(String test) {
        System.out.println(test + ": " + asked + " answers, " + wrong + " not as due");
        System.exit(wrong == 0 && asked > 0 ? 0 : 1);
    }

    static FleetShares made(String text) {
        FleetShares x = new FleetShares();
        is("text of '" + text + "' stands", tell(x, text) >= 0, true);
        return x;
    }

    static int tell(FleetShares x, String text) {
        put(x, text);
        return x.text();
    }

    /** A text behind the tape: twenty bytes at once, what is too much taken back. */
    static void put(FleetShares x, String text) {
        byte[] bytes = text.getBytes(StandardCharsets.ISO_8859_1);
        for (int from = 0; from < bytes.length; from += 20) {
            byte[] some = Arrays.copyOf(Arrays.copyOfRange(bytes, from, Math.min(from + 20, bytes.length)), 20);
            x.feed(four(some, 0), four(some, 4), four(some, 8), four(some, 12), four(some, 16));
        }
        x.back((20 - bytes.length % 20) % 20);
    }

    static int four(byte[] b, int at) {
        return (b[at] & 255) << 24 | (b[at + 1] & 255) << 16 | (b[at + 2] & 255) << 8 | b[at + 3] & 255;
    }

    static String spelled(FleetShares x) {
        StringBuilder text = new StringBuilder();
        int length = x.spell(FleetShares.NONE);
        for (int i = 0; i < length; i++) {
            text.append((char) x.spell(i));
        }
        return text.toString();
    }

    /** What spelled() would be, by at most 140 calls: an object may be asked 512 times in all. */
    static String held(FleetShares x) {
        StringBuilder text = new StringBuilder("cap " + x.count(2) + ";steady " + x.count(3) + ";");
        int fleets = x.count(0);
        for (int fleet = 0; fleet < fleets; fleet++) {
            text.append("fleet ").append(x.of(fleet, 0));
            int years = x.of(fleet, 1);
            for (int year = 0; year < 32; year++) {
                text.append((years >> year & 1) == 1 ? " " + year : "");
            }
            text.append(';');
        }
        int claims = x.count(1);
        for (int claim = 0; claim < claims; claim++) {
            text.append("claim ").append(x.claimOf(claim, 0)).append(' ').append(x.claimOf(claim, 1)).append(' ')
                    .append(x.claimOf(claim, 2)).append(';');
        }
        return text.toString();
    }

    static String reported(FleetShares x, int fleet) {
        StringBuilder text = new StringBuilder();
        int length = x.report(fleet, FleetShares.NONE);
        for (int i = 0; i < length; i++) {
            text.append((char) x.report(fleet, i));
        }
        return text.toString();
    }

    static String fraction(long upper, long lower) {
        return upper + "/" + lower;
    }
}
