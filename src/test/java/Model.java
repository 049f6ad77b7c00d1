import java.math.BigInteger;
import java.util.ArrayDeque;
import java.util.ArrayList;
import java.util.Comparator;
import java.util.Deque;
import java.util.HashMap;
import java.util.List;
import java.util.Map;
import java.util.TreeSet;
import java.util.function.Consumer;
import java.util.function.Function;
import java.util.regex.Matcher;
import java.util.regex.Pattern;

/**
 * The document once more, as plainly as the Java library lets it be told: objects for fleets and claims,
 * fractions without bounds, a copy of all for each act and each trial. It bears the face's names, so that
 * ModelTest can ask both the same.
 */
final class Model {
    static final long NO_FRACTION = -1000000000L;

    /** An exact fraction in least terms. */
    record Fraction(BigInteger upper, BigInteger lower) implements Comparable<Fraction> {
        static final Fraction ZERO = Fraction.of(0, 1);

        static Fraction of(long upper, long lower) {
            return of(BigInteger.valueOf(upper), BigInteger.valueOf(lower));
        }

        static Fraction of(BigInteger upper, BigInteger lower) {
            BigInteger g = upper.gcd(lower);
            if (lower.signum() < 0) {
                g = g.negate();
            }
            return new Fraction(upper.divide(g), lower.divide(g));
        }

        Fraction plus(Fraction o) {
            return of(upper.multiply(o.lower).add(o.upper.multiply(lower)), lower.multiply(o.lower));
        }

        Fraction less(Fraction o) {
            return plus(new Fraction(o.upper.negate(), o.lower));
        }

        Fraction times(Fraction o) {
            return of(upper.multiply(o.upper), lower.multiply(o.lower));
        }

        Fraction times(long n) {
            return times(of(n, 1));
        }

        Fraction by(Fraction o) {
            return of(upper.multiply(o.lower), lower.multiply(o.upper));
        }

        Fraction by(long n) {
            return by(of(n, 1));
        }

        int cutThousandths() {
            return upper.multiply(BigInteger.valueOf(1000)).divide(lower).intValueExact();
        }

        @Override
        public int compareTo(Fraction o) {
            return upper.multiply(o.lower).compareTo(o.upper.multiply(lower));
        }
    }

    static final class Fleet {
        int cls;
        final TreeSet<Integer> years = new TreeSet<>();
    }

    static final class Claim {
        Fleet fleet;
        int year;
        int amount;
    }

    /** All that an act changes, and what follows from it. */
    static final class State {
        final List<Fleet> fleets = new ArrayList<>();
        final List<Claim> claims = new ArrayList<>();
        int cap = 99;
        int steady = 5;

        State copy() {
            State to = new State();
            to.cap = cap;
            to.steady = steady;
            Map<Fleet, Fleet> twins = new HashMap<>();
            for (Fleet f : fleets) {
                Fleet twin = to.addFleet(f.cls);
                twin.years.addAll(f.years);
                twins.put(f, twin);
            }
            for (Claim c : claims) {
                to.addClaim(twins.get(c.fleet), c.year, c.amount);
            }
            return to;
        }

        Fleet addFleet(int cls) {
            Fleet f = new Fleet();
            f.cls = cls;
            fleets.add(f);
            return f;
        }

        void addClaim(Fleet fleet, int year, int amount) {
            Claim c = new Claim();
            c.fleet = fleet;
            c.year = year;
            c.amount = amount;
            claims.add(c);
        }

        List<Claim> claimsOf(Fleet f) {
            return claims.stream().filter(c -> c.fleet == f).toList();
        }

        int loss(Fleet f, int year) {
            return claimsOf(f).stream().filter(c -> c.year == year).mapToInt(c -> Math.min(c.amount, cap)).sum();
        }

        int n(Fleet f) {
            return f.years.size();
        }

        int s(Fleet f) {
            return f.years.stream().mapToInt(y -> loss(f, y)).sum();
        }

        int q(Fleet f) {
            return f.years.stream().mapToInt(y -> loss(f, y) * loss(f, y)).sum();
        }

        Fraction mean(Fleet f) {
            return Fraction.of(s(f), n(f));
        }

        List<Fleet> lookedAt() {
            return fleets.stream().filter(f -> n(f) >= 1).toList();
        }

        List<Fleet> lookedAt(int cls) {
            return lookedAt().stream().filter(f -> f.cls == cls).toList();
        }

        int bigN(int cls) {
            return lookedAt(cls).stream().mapToInt(this::n).sum();
        }

        int bigT(int cls) {
            return lookedAt(cls).stream().mapToInt(this::s).sum();
        }

        Fraction within(int cls) {
            Fraction upper = Fraction.ZERO;
            int lower = 0;
            for (Fleet f : lookedAt(cls)) {
                upper = upper.plus(Fraction.of(q(f), 1).less(Fraction.of((long) s(f) * s(f), n(f))));
                lower += n(f) - 1;
            }
            return lower == 0 ? null : upper.by(lower);
        }

        Fraction between(int cls) {
            List<Fleet> all = lookedAt(cls);
            Fraction within = within(cls);
            if (all.size() < 2 || within == null) {
                return null;
            }
            Fraction upper = Fraction.ZERO;
            int squares = 0;
            for (Fleet f : all) {
                upper = upper.plus(Fraction.of((long) s(f) * s(f), n(f)));
                squares += n(f) * n(f);
            }
            upper = upper.less(Fraction.of((long) bigT(cls) * bigT(cls), bigN(cls)));
            upper = upper.less(within.times(all.size() - 1));
            Fraction told = upper.by(Fraction.of(bigN(cls), 1).less(Fraction.of(squares, bigN(cls))));
            return told.upper.signum() <= 0 ? Fraction.ZERO : told;
        }

        int shareBy(int cls, int n) {
            Fraction between = between(cls);
            if (between == null || between.upper.signum() == 0) {
                return 0;
            }
            Fraction own = between.times(n);
            return own.by(own.plus(within(cls))).cutThousandths();
        }

        int share(Fleet f) {
            return shareBy(f.cls, n(f));
        }

        int shares(int cls) {
            return lookedAt(cls).stream().mapToInt(this::share).sum();
        }

        Fraction centre(int cls) {
            if (bigN(cls) == 0) {
                return null;
            }
            int shares = shares(cls);
            if (shares == 0) {
                return Fraction.of(bigT(cls), bigN(cls));
            }
            Fraction upper = Fraction.ZERO;
            for (Fleet f : lookedAt(cls)) {
                upper = upper.plus(mean(f).times(share(f)));
            }
            return upper.by(shares);
        }

        Fraction whole() {
            List<Fleet> all = lookedAt();
            return all.isEmpty() ? null
                    : Fraction.of(all.stream().mapToInt(this::s).sum(), all.stream().mapToInt(this::n).sum());
        }

        int y(int cls) {
            return Fraction.of(bigN(cls), bigN(cls) + steady).cutThousandths();
        }

        Fraction base(int cls) {
            return bigN(cls) == 0 ? null
                    : centre(cls).times(y(cls)).plus(whole().times(1000 - y(cls))).by(1000);
        }

        Fraction rate(Fleet f) {
            return mean(f).times(share(f)).plus(base(f.cls).times(1000 - share(f))).by(1000);
        }

        int cutRate(Fleet f) {
            return n(f) == 0 ? -2 : rate(f).cutThousandths();
        }

        Fraction off(int cls) {
            if (bigN(cls) == 0) {
                return null;
            }
            Fraction all = Fraction.ZERO;
            for (Fleet f : lookedAt(cls)) {
                all = all.plus(rate(f).times(n(f)));
            }
            return all.less(Fraction.of(bigT(cls), 1));
        }

        Fraction spread(int cls, int what) {
            return switch (what) {
                case 0 -> within(cls);
                case 1 -> between(cls);
                case 2 -> centre(cls);
                case 3 -> base(cls);
                case 4 -> off(cls);
                default -> null;
            };
        }
    }

    private State now = new State();
    private final Deque<State> acts = new ArrayDeque<>();
    private String tape = "";

    // ---- told

    int feed(int a, int b, int c, int d, int e) {
        if (tape.length() > 680) {
            return -1;
        }
        StringBuilder more = new StringBuilder(tape);
        for (int word : new int[] {a, b, c, d, e}) {
            for (int shift = 24; shift >= 0; shift -= 8) {
                more.append((char) (word >> shift & 0xff));
            }
        }
        tape = more.toString();
        return tape.length();
    }

    int back(int n) {
        if (n < 0 || n > tape.length()) {
            return -1;
        }
        tape = tape.substring(0, tape.length() - n);
        return tape.length();
    }

    int text() {
        Parse parse = new Parse(tape);
        tape = "";
        if (parse.fault >= 0) {
            return -4 - parse.fault;
        }
        now = parse.state;
        acts.clear();
        return now.fleets.size();
    }

    /** Tokens first, then sentences of tokens. */
    static final class Parse {
        final State state = new State();
        int fault = -1;
        private final List<String> tokens = new ArrayList<>();
        private final List<Integer> places = new ArrayList<>();
        private final int length;
        private int next = 0;

        Parse(String text) {
            length = text.length();
            Matcher m = Pattern.compile("[a-z]+|[0-9]+|[ \n]+|.", Pattern.DOTALL).matcher(text);
            while (m.find()) {
                tokens.add(m.group());
                places.add(m.start());
            }
            while (fault < 0 && more()) {
                sentence();
            }
        }

        private boolean more() {
            skip();
            return next < tokens.size();
        }

        private void skip() {
            while (next < tokens.size() && tokens.get(next).matches("[ \n]+")) {
                next++;
            }
        }

        private String peek() {
            skip();
            return next < tokens.size() ? tokens.get(next) : "";
        }

        private void fail() {
            if (fault < 0) {
                skip();
                fault = next < tokens.size() ? places.get(next) : length;
            }
        }

        private Integer number(Function<Integer, Boolean> fits) {
            if (fault >= 0) {
                return null;
            }
            boolean behindWord = next > 0 && tokens.get(next - 1).matches("[a-z]+");
            boolean apart = next < tokens.size() && tokens.get(next).matches("[ \n]+");
            String t = peek();
            if (behindWord && !apart || !t.matches("[0-9]{1,2}") || !fits.apply(Integer.parseInt(t))) {
                fail();
                return null;
            }
            next++;
            return Integer.parseInt(t);
        }

        private void end() {
            if (fault < 0) {
                if (peek().equals(";")) {
                    next++;
                } else {
                    fail();
                }
            }
        }

        private void sentence() {
            String word = peek();
            if (word.equals("fleet") && state.fleets.size() == 8
                    || word.equals("claim") && state.claims.size() == 40
                    || !List.of("cap", "steady", "fleet", "claim").contains(word)) {
                fail();
                return;
            }
            next++;
            switch (word) {
                case "cap" -> take(number(v -> v >= 1 && v <= 99), v -> state.cap = v);
                case "steady" -> take(number(v -> v <= 50), v -> state.steady = v);
                case "fleet" -> fleet();
                default -> claim();
            }
            end();
        }

        private void take(Integer v, Consumer<Integer> use) {
            if (v != null) {
                use.accept(v);
            }
        }

        private void fleet() {
            Integer cls = number(v -> v <= 2);
            if (cls == null) {
                return;
            }
            Fleet f = state.addFleet(cls);
            while (fault < 0 && !peek().equals(";")) {
                take(number(v -> v <= 4), f.years::add);
            }
        }

        private void claim() {
            Integer which = number(v -> v < state.fleets.size());
            if (which == null) {
                return;
            }
            Fleet f = state.fleets.get(which);
            Integer year = number(v -> f.years.contains(v)
                    && state.claimsOf(f).stream().filter(c -> c.year == v).count() < 4);
            Integer amount = number(v -> v >= 1 && v <= 99);
            if (amount != null) {
                state.addClaim(f, year, amount);
            }
        }
    }

    // ---- acts

    private Fleet at(int fleet) {
        return fleet >= 0 && fleet < now.fleets.size() ? now.fleets.get(fleet) : null;
    }

    private Claim claimAt(int claim) {
        return claim >= 0 && claim < now.claims.size() ? now.claims.get(claim) : null;
    }

    private static boolean in(int v, int least, int most) {
        return v >= least && v <= most;
    }

    private void act() {
        acts.addLast(now.copy());
        if (acts.size() > 12) {
            acts.removeFirst();
        }
    }

    int fleet(int cls, int years) {
        if (!in(cls, 0, 2) || !in(years, 0, 31) || now.fleets.size() == 8) {
            return -1;
        }
        act();
        Fleet f = now.addFleet(cls);
        for (int y = 0; y < 5; y++) {
            if ((years & 1 << y) != 0) {
                f.years.add(y);
            }
        }
        return now.fleets.size() - 1;
    }

    boolean leave(int fleet) {
        Fleet f = at(fleet);
        if (f == null) {
            return false;
        }
        act();
        now.claims.removeIf(c -> c.fleet == f);
        now.fleets.remove(f);
        return true;
    }

    int move(int fleet, int cls) {
        Fleet f = at(fleet);
        if (f == null || !in(cls, 0, 2) || f.cls == cls) {
            return -1;
        }
        act();
        int was = f.cls;
        f.cls = cls;
        return was;
    }

    int insure(int fleet, int year) {
        Fleet f = at(fleet);
        if (f == null || !in(year, 0, 4) || f.years.contains(year)) {
            return -1;
        }
        act();
        f.years.add(year);
        return f.years.size();
    }

    int lapse(int fleet, int year) {
        Fleet f = at(fleet);
        if (f == null || !f.years.contains(year)) {
            return -1;
        }
        act();
        f.years.remove(year);
        int had = now.claims.size();
        now.claims.removeIf(c -> c.fleet == f && c.year == year);
        return had - now.claims.size();
    }

    int forget(int year) {
        int were = (int) now.fleets.stream().filter(f -> f.years.contains(year)).count();
        if (were == 0) {
            return -1;
        }
        act();
        now.fleets.forEach(f -> f.years.remove(year));
        now.claims.removeIf(c -> c.year == year);
        return were;
    }

    int claim(int fleet, int year, int amount) {
        Fleet f = at(fleet);
        if (f == null || !f.years.contains(year) || !in(amount, 1, 99) || now.claims.size() == 40
                || now.claims.stream().filter(c -> c.fleet == f && c.year == year).count() == 4) {
            return -1;
        }
        act();
        now.addClaim(f, year, amount);
        return now.claims.size() - 1;
    }

    boolean waive(int claim) {
        if (claimAt(claim) == null) {
            return false;
        }
        act();
        now.claims.remove(claim);
        return true;
    }

    int amend(int claim, int amount) {
        Claim c = claimAt(claim);
        if (c == null || !in(amount, 1, 99) || c.amount == amount) {
            return -1;
        }
        act();
        int was = c.amount;
        c.amount = amount;
        return was;
    }

    int join(int cls, int other) {
        List<Fleet> all = now.fleets.stream().filter(f -> f.cls == cls).toList();
        if (!in(other, 0, 2) || cls == other || all.isEmpty()) {
            return -1;
        }
        act();
        all.forEach(f -> f.cls = other);
        return all.size();
    }

    boolean swap(int fleet, int other) {
        Fleet f = at(fleet);
        Fleet o = at(other);
        if (f == null || o == null || f == o) {
            return false;
        }
        act();
        now.fleets.set(fleet, o);
        now.fleets.set(other, f);
        return true;
    }

    int scale(int fleet, int percent) {
        Fleet f = at(fleet);
        if (f == null || !in(percent, 1, 900)) {
            return -1;
        }
        Function<Claim, Integer> scaled = c -> Math.max(1, Math.min(99, c.amount * percent / 100));
        int changed = (int) now.claimsOf(f).stream().filter(c -> scaled.apply(c) != c.amount).count();
        if (changed == 0) {
            return -1;
        }
        act();
        now.claimsOf(f).forEach(c -> c.amount = scaled.apply(c));
        return changed;
    }

    int split(int fleet, int years) {
        Fleet f = at(fleet);
        TreeSet<Integer> set = new TreeSet<>();
        for (int y = 0; y < 32; y++) {
            if ((years & 1 << y) != 0) {
                set.add(y);
            }
        }
        if (f == null || now.fleets.size() == 8 || set.isEmpty() || set.size() == f.years.size()
                || !f.years.containsAll(set)) {
            return -1;
        }
        act();
        Fleet added = now.addFleet(f.cls);
        added.years.addAll(set);
        f.years.removeAll(set);
        now.claimsOf(f).stream().filter(c -> set.contains(c.year)).forEach(c -> c.fleet = added);
        return now.fleets.size() - 1;
    }

    int merge(int fleet, int other) {
        Fleet f = at(fleet);
        Fleet o = at(other);
        if (f == null || o == null || f == o || f.years.stream().anyMatch(o.years::contains)) {
            return -1;
        }
        act();
        o.years.addAll(f.years);
        now.claimsOf(f).forEach(c -> c.fleet = o);
        now.fleets.remove(f);
        return now.fleets.indexOf(o);
    }

    int cap(int v) {
        if (!in(v, 1, 99) || v == now.cap) {
            return -1;
        }
        act();
        int was = now.cap;
        now.cap = v;
        return was;
    }

    int steady(int v) {
        if (!in(v, 0, 50) || v == now.steady) {
            return -1;
        }
        act();
        int was = now.steady;
        now.steady = v;
        return was;
    }

    int undo() {
        if (acts.isEmpty()) {
            return -1;
        }
        now = acts.removeLast();
        return acts.size();
    }

    // ---- asked

    private static int bits(Iterable<Integer> set) {
        int bits = 0;
        for (int v : set) {
            bits |= 1 << v;
        }
        return bits;
    }

    private static long part(Fraction f, boolean lower) {
        return f == null ? NO_FRACTION : (lower ? f.lower : f.upper).longValueExact();
    }

    private int aboveCap(List<Claim> some) {
        return (int) some.stream().filter(c -> c.amount > now.cap).count();
    }

    int of(int fleet, int what) {
        Fleet f = at(fleet);
        if (f == null) {
            return -1;
        }
        return switch (what) {
            case 0 -> f.cls;
            case 1 -> bits(f.years);
            case 2 -> now.n(f);
            case 3 -> now.s(f);
            case 4 -> now.q(f);
            case 5 -> now.claimsOf(f).size();
            case 6 -> aboveCap(now.claimsOf(f));
            case 7 -> now.n(f) == 0 ? -2 : now.share(f);
            default -> -1;
        };
    }

    int loss(int fleet, int year) {
        Fleet f = at(fleet);
        if (f == null || !in(year, 0, 4)) {
            return -1;
        }
        return f.years.contains(year) ? now.loss(f, year) : -2;
    }

    int claimOf(int claim, int what) {
        Claim c = claimAt(claim);
        if (c == null) {
            return -1;
        }
        return switch (what) {
            case 0 -> now.fleets.indexOf(c.fleet);
            case 1 -> c.year;
            case 2 -> c.amount;
            case 3 -> Math.min(c.amount, now.cap);
            default -> -1;
        };
    }

    int group(int cls, int what) {
        if (!in(cls, 0, 2)) {
            return -1;
        }
        return switch (what) {
            case 0 -> now.lookedAt(cls).size();
            case 1 -> now.bigN(cls);
            case 2 -> now.bigT(cls);
            case 3 -> now.bigN(cls) == 0 ? -2 : now.y(cls);
            case 4 -> bits(now.fleets.stream().filter(f -> f.cls == cls).map(now.fleets::indexOf).toList());
            case 5 -> now.shares(cls);
            default -> -1;
        };
    }

    long spread(int cls, int what, boolean lower) {
        return in(cls, 0, 2) ? part(now.spread(cls, what), lower) : NO_FRACTION;
    }

    long whole(boolean lower) {
        return part(now.whole(), lower);
    }

    long rate(int fleet, boolean lower) {
        Fleet f = at(fleet);
        return f == null || now.n(f) == 0 ? NO_FRACTION : part(now.rate(f), lower);
    }

    int thousandths(int fleet) {
        return at(fleet) == null ? -1 : now.cutRate(at(fleet));
    }

    private int kth(List<Integer> sorted, int k) {
        return in(k, 0, sorted.size() - 1) ? sorted.get(k) : -1;
    }

    private List<Integer> byRate(List<Fleet> some) {
        Map<Fleet, Fraction> rates = new HashMap<>();
        some.forEach(f -> rates.put(f, now.rate(f)));
        return some.stream().sorted(Comparator.comparing(rates::get, Comparator.reverseOrder()))
                .map(now.fleets::indexOf).toList();
    }

    int ranked(int k) {
        return kth(byRate(now.lookedAt()), k);
    }

    int greatest(int fleet, int k) {
        Fleet f = at(fleet);
        return f == null ? -1 : kth(now.claimsOf(f).stream().sorted(Comparator.comparing(c -> -c.amount))
                .map(now.claims::indexOf).toList(), k);
    }

    int worst(int year) {
        if (!in(year, 0, 4)) {
            return -1;
        }
        return now.fleets.stream().filter(f -> f.years.contains(year))
                .sorted(Comparator.comparing(f -> -now.loss(f, year)))
                .map(now.fleets::indexOf).findFirst().orElse(-2);
    }

    int dearestOf(int cls) {
        if (!in(cls, 0, 2)) {
            return -1;
        }
        List<Integer> all = byRate(now.lookedAt(cls));
        return all.isEmpty() ? -2 : all.get(0);
    }

    int claimsIn(int year) {
        return in(year, 0, 4) ? (int) now.claims.stream().filter(c -> c.year == year).count() : -1;
    }

    int gap(int fleet, int other) {
        int one = thousandths(fleet);
        int two = thousandths(other);
        return one < 0 || two < 0 ? -1000000 : one - two;
    }

    int premium(int fleet, int months) {
        if (!in(months, 1, 60) || at(fleet) == null) {
            return -1;
        }
        return thousandths(fleet) < 0 ? -2 : thousandths(fleet) * months / 12;
    }

    // ---- were

    /** What is told of a state that is changed and then given up. */
    private int were(Function<State, Integer> changed) {
        return changed.apply(now.copy());
    }

    int shareBy(int fleet, int n) {
        Fleet f = at(fleet);
        if (f == null || !in(n, 1, 99)) {
            return -1;
        }
        return now.n(f) == 0 ? -2 : now.shareBy(f.cls, n);
    }

    int yearsFor(int fleet, int share) {
        Fleet f = at(fleet);
        if (f == null || !in(share, 1, 1000)) {
            return -1;
        }
        for (int n = 1; n <= 99 && now.n(f) > 0; n++) {
            if (now.shareBy(f.cls, n) >= share) {
                return n;
            }
        }
        return -2;
    }

    int inClass(int fleet, int cls) {
        return at(fleet) == null || !in(cls, 0, 2) ? -1 : were(s -> {
            s.fleets.get(fleet).cls = cls;
            return s.cutRate(s.fleets.get(fleet));
        });
    }

    int bestClass(int fleet) {
        if (inClass(fleet, 0) < 0) {
            return inClass(fleet, 0);
        }
        return List.of(0, 1, 2).stream().min(Comparator.comparing(cls -> inClass(fleet, cls))).orElseThrow();
    }

    int byCap(int fleet, int cap) {
        return at(fleet) == null || !in(cap, 1, 99) ? -1 : were(s -> {
            s.cap = cap;
            return s.cutRate(s.fleets.get(fleet));
        });
    }

    int capFor(int fleet) {
        int due = byCap(fleet, 99);
        int cap = 1;
        while (due >= 0 && byCap(fleet, cap) != due) {
            cap++;
        }
        return due < 0 ? due : cap;
    }

    private static void endFrom(State s, int year) {
        s.claims.removeIf(c -> c.year >= year);
        s.fleets.forEach(f -> f.years.removeIf(y -> y >= year));
    }

    int early(int fleet, int year) {
        return at(fleet) == null || !in(year, 1, 5) ? -1 : were(s -> {
            endFrom(s, year);
            return s.cutRate(s.fleets.get(fleet));
        });
    }

    int earlyShare(int fleet, int year) {
        return at(fleet) == null || !in(year, 1, 5) ? -1 : were(s -> {
            endFrom(s, year);
            Fleet f = s.fleets.get(fleet);
            return s.n(f) == 0 ? -2 : s.share(f);
        });
    }

    int withoutFleet(int fleet, int other) {
        return at(fleet) == null || at(other) == null || fleet == other ? -1 : were(s -> {
            Fleet f = s.fleets.get(fleet);
            Fleet gone = s.fleets.remove(other);
            s.claims.removeIf(c -> c.fleet == gone);
            return s.cutRate(f);
        });
    }

    long joined(int cls, int other, int what, boolean lower) {
        if (!in(cls, 0, 2) || !in(other, 0, 2) || cls == other) {
            return NO_FRACTION;
        }
        State s = now.copy();
        s.fleets.stream().filter(f -> f.cls == cls).forEach(f -> f.cls = other);
        return part(s.spread(other, what), lower);
    }

    int withoutClaim(int fleet, int claim) {
        return at(fleet) == null || claimAt(claim) == null ? -1 : were(s -> {
            s.claims.remove(claim);
            return s.cutRate(s.fleets.get(fleet));
        });
    }

    int dearest() {
        int best = -2;
        int most = Integer.MIN_VALUE;
        for (Claim c : now.claims) {
            int own = now.fleets.indexOf(c.fleet);
            int less = thousandths(own) - withoutClaim(own, now.claims.indexOf(c));
            if (less > most) {
                most = less;
                best = now.claims.indexOf(c);
            }
        }
        return best;
    }

    // ---- texts

    private static int told(String text, int i) {
        if (i < -1) {
            return -1;
        }
        if (i == -1) {
            return text.length();
        }
        return i < text.length() ? text.charAt(i) : -2;
    }

    int report(int fleet, int i) {
        Fleet f = at(fleet);
        if (f == null) {
            return -1;
        }
        String rated = now.n(f) == 0 ? "" : " share " + now.share(f) + " rate " + now.cutRate(f);
        return told("fleet " + fleet + " class " + f.cls + " years " + now.n(f) + rated + ";", i);
    }

    String spelled() {
        StringBuilder text = new StringBuilder("cap " + now.cap + ";steady " + now.steady + ";");
        for (Fleet f : now.fleets) {
            text.append("fleet ").append(f.cls);
            f.years.forEach(y -> text.append(" ").append(y));
            text.append(";");
        }
        for (Claim c : now.claims) {
            text.append("claim " + now.fleets.indexOf(c.fleet) + " " + c.year + " " + c.amount + ";");
        }
        return text.toString();
    }

    int spell(int i) {
        return told(spelled(), i);
    }

    int count(int what) {
        return switch (what) {
            case 0 -> now.fleets.size();
            case 1 -> now.claims.size();
            case 2 -> now.cap;
            case 3 -> now.steady;
            case 4 -> acts.size();
            case 5 -> tape.length();
            case 6 -> aboveCap(now.claims);
            case 7 -> (int) now.fleets.stream().filter(f -> f.years.isEmpty()).count();
            case 8 -> bits(now.fleets.stream().flatMap(f -> f.years.stream()).toList());
            default -> -1;
        };
    }
}
