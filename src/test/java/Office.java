import java.lang.reflect.InvocationTargetException;
import java.lang.reflect.Method;
import java.nio.charset.StandardCharsets;
import java.util.Arrays;
import java.util.HashMap;
import java.util.Map;

/**
 * One object of the class, asked by calls as the document writes them, "claim(0, 1, 99)"; min and max stand for the
 * least and the greatest int, and a boolean answer counts 1 or 0. It looks that no test asks an object more often
 * than the document allows.
 */
final class Office {
    private static final int MOST_CALLS = 512;
    private static final Map<String, Method> METHODS = new HashMap<>();

    static {
        Arrays.stream(FleetShares.class.getMethods()).forEach(m -> METHODS.put(m.getName(), m));
    }

    private final FleetShares x = new FleetShares();
    private int calls = 0;

    static Office empty() {
        return new Office();
    }

    /** An office to which a text has been told that stands. */
    static Office of(String text) {
        Office made = new Office();
        Due.is("text of '" + text + "' stands", made.tell(text) >= 0, true);
        return made;
    }

    long ask(String call) {
        calls++;
        if (calls == MOST_CALLS + 1) {
            Due.is("calls that the test itself made", calls, MOST_CALLS);
        }
        Method method = method(call);
        Class<?>[] types = method.getParameterTypes();
        String inside = call.substring(call.indexOf('(') + 1, call.length() - 1);
        String[] told = inside.isEmpty() ? new String[0] : inside.split(", ");
        Object[] args = new Object[types.length];
        for (int i = 0; i < types.length; i++) {
            args[i] = types[i] == boolean.class ? (Object) Boolean.valueOf(told[i]) : (Object) number(told[i]);
        }
        return asked(method, args);
    }

    private static Method method(String call) {
        return METHODS.get(call.substring(0, call.indexOf('(')));
    }

    private static int number(String told) {
        return switch (told) {
            case "min" -> Integer.MIN_VALUE;
            case "max" -> Integer.MAX_VALUE;
            default -> Integer.parseInt(told);
        };
    }

    private long asked(Method method, Object[] args) {
        try {
            Object got = method.invoke(x, args);
            return got instanceof Boolean b ? b ? 1 : 0 : ((Number) got).longValue();
        } catch (IllegalAccessException | InvocationTargetException e) {
            throw new IllegalStateException(method.getName() + Arrays.toString(args), e);
        }
    }

    void due(String call, long want) {
        Due.is(call, ask(call), want);
    }

    /** Each of several calls has the same answer. */
    void dueOfEach(long want, String... several) {
        for (String call : several) {
            due(call, want);
        }
    }

    /** Both parts of a fraction; the call is told without its last argument: "spread(0, 1". */
    void dueFraction(String call, long upper, long lower) {
        String from = call.endsWith("(") ? call : call + ", ";
        due(from + "false)", upper);
        due(from + "true)", lower);
    }

    /** Each of several acts is refused (NONE, or false), and by none of them anything happens. */
    void refuses(String... acts) {
        String had = state();
        for (String act : acts) {
            due(act, method(act).getReturnType() == boolean.class ? 0 : FleetShares.NONE);
        }
        Due.is("all behind " + Arrays.toString(acts), state(), had);
    }

    /** All that can be seen of it, by fewer calls than its text would take. */
    String state() {
        StringBuilder all = new StringBuilder("counts");
        for (int what = 0; what <= 8; what++) {
            all.append(' ').append(ask("count(" + what + ")"));
        }
        return all + "; " + held();
    }

    /** Fleets and claims as a text has them: "fleet 0 0 1;claim 0 1 99;". */
    String held() {
        StringBuilder all = new StringBuilder();
        long fleets = ask("count(0)");
        for (int fleet = 0; fleet < fleets; fleet++) {
            all.append("fleet ").append(ask("of(" + fleet + ", 0)"));
            long years = ask("of(" + fleet + ", 1)");
            for (int year = 0; year < 32; year++) {
                all.append((years >> year & 1) == 1 ? " " + year : "");
            }
            all.append(';');
        }
        long claims = ask("count(1)");
        for (int claim = 0; claim < claims; claim++) {
            all.append("claim");
            for (int what = 0; what < 3; what++) {
                all.append(' ').append(ask("claimOf(" + claim + ", " + what + ")"));
            }
            all.append(';');
        }
        return all.toString();
    }

    void dueHeld(String want) {
        Due.is("fleets and claims", held(), want);
    }

    /** The text comes behind the tape, and is read. */
    long tell(String text) {
        feed(text);
        return ask("text()");
    }

    void feed(String text) {
        byte[] bytes = text.getBytes(StandardCharsets.ISO_8859_1);
        for (int from = 0; from < bytes.length; from += 20) {
            byte[] some = Arrays.copyOf(Arrays.copyOfRange(bytes, from, Math.min(from + 20, bytes.length)), 20);
            StringBuilder words = new StringBuilder();
            for (int at = 0; at < 20; at += 4) {
                words.append(at == 0 ? "" : ", ").append(Due.four(some, at));
            }
            ask("feed(" + words + ")");
        }
        if (bytes.length % 20 > 0) {
            ask("back(" + (20 - bytes.length % 20) + ")");
        }
    }

    /** A text told byte by byte; the call is told without its last argument: "spell(", "report(0, ". */
    String bytesOf(String call) {
        long length = ask(call + "-1)");
        StringBuilder text = new StringBuilder();
        for (int i = 0; i < length; i++) {
            text.append((char) ask(call + i + ")"));
        }
        return text.toString();
    }
}
