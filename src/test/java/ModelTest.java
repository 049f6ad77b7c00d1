import java.lang.reflect.Method;
import java.nio.charset.StandardCharsets;
import java.util.ArrayList;
import java.util.Arrays;
import java.util.LinkedHashMap;
import java.util.List;
import java.util.Map;
import java.util.Random;

/** Runs of chosen-by-seed calls, asked of the class and of the model; every answer must be the same. */
public final class ModelTest {
    private static final int RUNS = 300;
    /** So many that a last text (37 calls at most) and a last look at all (140) stay within an object's 512. */
    private static final int CALLS = 335;
    private static final int[] EXTREMES = {Integer.MIN_VALUE, Integer.MAX_VALUE, -2, -1, 100, 1001, 1 << 30};

    /** How often a call comes, and the bounds of its arguments, one beyond the document's at each side. */
    private static final Object[][] CALLS_TOLD = {
        {"feed", 1}, {"back", 1, -1, 25}, {"text", 1},
        {"fleet", 14, -1, 3, -1, 32}, {"leave", 2, -1, 8}, {"move", 6, -1, 8, -1, 3}, {"insure", 10, -1, 8, -1, 5},
        {"lapse", 4, -1, 8, -1, 5}, {"forget", 1, -1, 5}, {"claim", 60, -1, 8, -1, 5, 0, 100},
        {"waive", 3, -1, 40}, {"amend", 6, -1, 40, 0, 100}, {"join", 2, -1, 3, -1, 3}, {"swap", 4, -1, 8, -1, 8},
        {"scale", 4, -1, 8, 0, 901}, {"split", 5, -1, 8, 0, 32}, {"merge", 5, -1, 8, -1, 8},
        {"cap", 4, 0, 100}, {"steady", 4, -1, 51}, {"undo", 12},
        {"of", 12, -1, 8, -1, 8}, {"loss", 8, -1, 8, -1, 5}, {"claimOf", 6, -1, 40, -1, 4},
        {"group", 10, -1, 3, -1, 6}, {"spread", 24, -1, 3, -1, 5}, {"whole", 4}, {"rate", 10, -1, 8},
        {"thousandths", 5, -1, 8}, {"ranked", 8, -1, 8}, {"greatest", 6, -1, 8, -1, 6}, {"worst", 5, -1, 5},
        {"dearestOf", 5, -1, 3}, {"claimsIn", 4, -1, 5}, {"gap", 5, -1, 8, -1, 8}, {"premium", 5, -1, 8, 0, 61},
        {"shareBy", 5, -1, 8, 0, 100}, {"yearsFor", 5, -1, 8, 0, 1001}, {"inClass", 5, -1, 8, -1, 3},
        {"bestClass", 4, -1, 8}, {"byCap", 5, -1, 8, 0, 100}, {"capFor", 1, -1, 8}, {"early", 5, -1, 8, 0, 6},
        {"earlyShare", 5, -1, 8, 0, 6}, {"withoutFleet", 5, -1, 8, -1, 8}, {"joined", 8, -1, 3, -1, 3, -1, 5},
        {"withoutClaim", 5, -1, 8, -1, 40}, {"dearest", 2}, {"report", 6, -1, 8, -2, 50},
        {"spell", 6, -2, 700}, {"count", 8, -1, 9},
    };

    private final Random random;
    private final int run;
    private final List<String> calls = new ArrayList<>();
    private final Map<String, Method> real = new LinkedHashMap<>();
    private final Map<String, Method> modelled = new LinkedHashMap<>();
    private FleetShares x = new FleetShares();
    private Model model = new Model();

    private ModelTest(int run) {
        this.run = run;
        random = new Random(run);
        Arrays.stream(FleetShares.class.getDeclaredMethods()).forEach(m -> real.put(m.getName(), m));
        Arrays.stream(Model.class.getDeclaredMethods()).forEach(m -> modelled.put(m.getName(), m));
    }

    public static void main(String[] args) throws Exception {
        int runs = args.length > 0 ? Integer.parseInt(args[0]) : RUNS;
        for (int run = 0; run < runs; run++) {
            new ModelTest(run).runAll();
        }
        Due.end("ModelTest");
    }

    private void runAll() throws Exception {
        List<Object[]> weighted = new ArrayList<>();
        for (Object[] told : CALLS_TOLD) {
            for (int i = 0; i < (Integer) told[1]; i++) {
                weighted.add(told);
            }
        }
        if (run % 2 == 0) {
            tellText(fullText());
        }
        while (calls.size() < CALLS) {
            if (random.nextInt(60) == 0) {
                tellText(random.nextInt(3) == 0 ? fullText() : spoiled(fullText()));
            } else {
                Object[] told = weighted.get(random.nextInt(weighted.size()));
                // A tape that is fed at random can hardly be a text: it is seldom left so.
                ask((String) told[0], arguments(told));
            }
        }
        Due.is("run " + run + " behind all", Due.held(x), model.spelled());
    }

    private void ask(String name, Object... args) throws Exception {
        String call = name + Arrays.toString(args);
        calls.add(call);
        Object got = real.get(name).invoke(x, args);
        Object want = modelled.get(name).invoke(model, args);
        Due.is("run " + run + ", call " + calls.size() + " " + call, got.toString(), want.toString());
    }

    private Object[] arguments(Object[] told) {
        Class<?>[] types = real.get((String) told[0]).getParameterTypes();
        Object[] args = new Object[types.length];
        for (int i = 0; i < types.length; i++) {
            if (types[i] == boolean.class) {
                args[i] = random.nextBoolean();
            } else if (told.length < 2 * i + 4) {
                args[i] = random.nextInt();
            } else if (random.nextInt(100) == 0) {
                args[i] = EXTREMES[random.nextInt(EXTREMES.length)];
            } else {
                int least = (Integer) told[2 * i + 2];
                int most = (Integer) told[2 * i + 3];
                // Arguments inside the bounds come oftener than those at their edges.
                int v = least + random.nextInt(most - least + 1);
                args[i] = v == least || v == most ? least + random.nextInt(most - least + 1) : v;
            }
        }
        return args;
    }

    private void tellText(String text) throws Exception {
        byte[] bytes = text.getBytes(StandardCharsets.ISO_8859_1);
        for (int from = 0; from < bytes.length; from += 20) {
            byte[] some = Arrays.copyOf(Arrays.copyOfRange(bytes, from, Math.min(from + 20, bytes.length)), 20);
            ask("feed", Due.four(some, 0), Due.four(some, 4), Due.four(some, 8), Due.four(some, 12),
                    Due.four(some, 16));
        }
        ask("back", (20 - bytes.length % 20) % 20);
        if (random.nextInt(20) > 0) {
            ask("text");
        }
    }

    /** A text that stands, of up to eight fleets and as many claims as there is room for. */
    private String fullText() {
        StringBuilder text = new StringBuilder();
        int fleets = 1 + random.nextInt(8);
        int classes = 1 + random.nextInt(3);
        int top = random.nextInt(3) == 0 ? 12 : 99;
        List<List<Integer>> rooms = new ArrayList<>();
        if (random.nextBoolean()) {
            text.append("cap").append(gap(1)).append(1 + random.nextInt(99)).append(gap(0)).append(";");
        }
        for (int f = 0; f < fleets; f++) {
            text.append(gap(0)).append("fleet").append(gap(1)).append(random.nextInt(classes));
            List<Integer> room = new ArrayList<>();
            for (int y = 0; y < 5; y++) {
                if (random.nextInt(4) > 0) {
                    text.append(gap(1)).append(random.nextInt(9) == 0 ? "0" : "").append(y);
                    room.addAll(List.of(y, y, y, y));
                }
            }
            rooms.add(room);
            text.append(gap(0)).append(";");
        }
        int claims = random.nextInt(41);
        for (int c = 0; c < claims && text.length() < 640; c++) {
            int f = random.nextInt(fleets);
            List<Integer> room = rooms.get(f);
            if (!room.isEmpty()) {
                int y = room.remove(random.nextInt(room.size()));
                text.append("claim ").append(f).append(gap(1)).append(y).append(gap(1))
                        .append(1 + random.nextInt(top)).append(gap(0)).append(";");
            }
        }
        if (random.nextBoolean()) {
            text.append("steady ").append(random.nextInt(51)).append(";").append(gap(0));
        }
        return text.toString();
    }

    private String gap(int least) {
        int chance = random.nextInt(12);
        if (chance == 0) {
            return " \n";
        }
        return least > 0 ? chance == 1 ? "\n" : " " : chance == 1 ? " " : "";
    }

    private String spoiled(String text) {
        StringBuilder t = new StringBuilder(text);
        String bytes = "0123459 \n;;acflmpstyz" + (char) 0 + (char) 9 + (char) 13 + (char) 160 + (char) 233 + "A:/";
        int times = 1 + random.nextInt(2);
        for (int i = 0; i < times && t.length() > 1; i++) {
            int at = random.nextInt(t.length());
            char b = bytes.charAt(random.nextInt(bytes.length()));
            switch (random.nextInt(5)) {
                case 0 -> t.deleteCharAt(at);
                case 1 -> t.insert(at, b);
                case 2 -> t.setCharAt(at, b);
                case 3 -> t.setLength(at);
                default -> t.append(random.nextBoolean() ? "fleet 1 0;" : "claim 0 0 9;");
            }
        }
        return t.toString();
    }
}
