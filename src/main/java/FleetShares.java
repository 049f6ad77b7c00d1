import java.util.Arrays;

/** A fleet experience office; README.md says how it is used, the document's promises what it answers. */
public final class FleetShares {
    public static final int NONE = -1;

    private static final int MISSING = -2;
    private static final long NO_FRACTION = -1000000000L;
    private static final int NO_GAP = -1000000;
    private static final int FAULT_FROM = -4;

    private static final int CLASSES = 3;
    private static final int YEARS = 5;
    private static final int ALL_YEARS = 31;
    private static final int MOST_FLEETS = 8;
    private static final int MOST_CLAIMS = 40;
    private static final int MOST_OF_ONE_YEAR = 4;
    private static final int MOST_AMOUNT = 99;
    private static final int MOST_STEADY = 50;
    private static final int FIRST_CAP = 99;
    private static final int FIRST_STEADY = 5;
    private static final int MOST_PERCENT = 900;
    private static final int MOST_MONTHS = 60;
    private static final int MOST_SPAN = 99;
    private static final int MOST_ACTS = 12;
    private static final int MOST_BYTES = 700;
    private static final int BYTES_FED = 20;
    private static final int FULL = 1000;

    private final Tape tape;
    private final Book book;
    private final Book trial;
    private final Past past;
    private final Ledger ledger;
    private final Pen pen;
    private final Ratio told;
    private final int[] ratesNow;

    public FleetShares() {
        tape = new Tape();
        book = new Book();
        trial = new Book();
        past = new Past();
        ledger = new Ledger();
        pen = new Pen();
        told = new Ratio();
        ratesNow = new int[MOST_FLEETS];
    }

    // ---- told

    public int feed(int a, int b, int c, int d, int e) {
        if (tape.size() + BYTES_FED > MOST_BYTES) {
            return NONE;
        }
        tape.addFour(a);
        tape.addFour(b);
        tape.addFour(c);
        tape.addFour(d);
        tape.addFour(e);
        return tape.size();
    }

    public int back(int n) {
        if (n < 0 || n > tape.size()) {
            return NONE;
        }
        tape.dropLast(n);
        return tape.size();
    }

    public int text() {
        int fault = tape.readInto(trial);
        tape.dropLast(tape.size());
        if (fault != NONE) {
            return FAULT_FROM - fault;
        }
        book.copyFrom(trial);
        past.empty();
        return book.fleets;
    }

    // ---- acts

    public int fleet(int cls, int years) {
        if (!isClass(cls) || years < 0 || years > ALL_YEARS || book.fleets >= MOST_FLEETS) {
            return NONE;
        }
        past.keep(book);
        return book.addFleet(cls, years);
    }

    public boolean leave(int fleet) {
        if (!book.hasFleet(fleet)) {
            return false;
        }
        past.keep(book);
        book.dropFleet(fleet);
        return true;
    }

    public int move(int fleet, int cls) {
        if (!book.hasFleet(fleet) || !isClass(cls) || book.classOf(fleet) == cls) {
            return NONE;
        }
        past.keep(book);
        int was = book.classOf(fleet);
        book.putClass(fleet, cls);
        return was;
    }

    public int insure(int fleet, int year) {
        if (!book.hasFleet(fleet) || !isYear(year) || book.isInsured(fleet, year)) {
            return NONE;
        }
        past.keep(book);
        book.putYears(fleet, book.yearsOf(fleet) | 1 << year);
        return Integer.bitCount(book.yearsOf(fleet));
    }

    public int lapse(int fleet, int year) {
        if (!book.hasFleet(fleet) || !isYear(year) || !book.isInsured(fleet, year)) {
            return NONE;
        }
        past.keep(book);
        return book.endYears(fleet, 1 << year);
    }

    public int forget(int year) {
        if (!isYear(year) || book.countInsured(year) == 0) {
            return NONE;
        }
        past.keep(book);
        int were = book.countInsured(year);
        book.endYearsOfAll(1 << year);
        return were;
    }

    public int claim(int fleet, int year, int amount) {
        if (!book.hasFleet(fleet) || !isYear(year) || !isAmount(amount) || !book.canClaim(fleet, year)) {
            return NONE;
        }
        past.keep(book);
        return book.addClaim(fleet, year, amount);
    }

    public boolean waive(int claim) {
        if (!book.hasClaim(claim)) {
            return false;
        }
        past.keep(book);
        book.dropClaim(claim);
        return true;
    }

    public int amend(int claim, int amount) {
        if (!book.hasClaim(claim) || !isAmount(amount) || book.amountOf(claim) == amount) {
            return NONE;
        }
        past.keep(book);
        int was = book.amountOf(claim);
        book.putAmount(claim, amount);
        return was;
    }

    public int join(int cls, int other) {
        if (!isClass(cls) || !isClass(other) || cls == other || book.fleetsIn(cls) == 0) {
            return NONE;
        }
        past.keep(book);
        return book.moveAll(cls, other);
    }

    public boolean swap(int fleet, int other) {
        if (!book.hasFleet(fleet) || !book.hasFleet(other) || fleet == other) {
            return false;
        }
        past.keep(book);
        book.exchange(fleet, other);
        return true;
    }

    public int scale(int fleet, int percent) {
        if (!book.hasFleet(fleet) || percent < 1 || percent > MOST_PERCENT) {
            return NONE;
        }
        trial.copyFrom(book);
        int changed = trial.scaleAmounts(fleet, percent);
        if (changed == 0) {
            return NONE;
        }
        past.keep(book);
        book.copyFrom(trial);
        return changed;
    }

    public int split(int fleet, int years) {
        if (!book.hasFleet(fleet) || book.fleets >= MOST_FLEETS) {
            return NONE;
        }
        int has = book.yearsOf(fleet);
        if (years == 0 || years == has || (years & ~has) != 0) {
            return NONE;
        }
        past.keep(book);
        return book.splitOff(fleet, years);
    }

    public int merge(int fleet, int other) {
        if (!book.hasFleet(fleet) || !book.hasFleet(other) || fleet == other
                || (book.yearsOf(fleet) & book.yearsOf(other)) != 0) {
            return NONE;
        }
        past.keep(book);
        return book.mergeInto(fleet, other);
    }

    public int cap(int v) {
        if (!isAmount(v) || v == book.cap) {
            return NONE;
        }
        past.keep(book);
        int was = book.cap;
        book.cap = v;
        return was;
    }

    public int steady(int v) {
        if (v < 0 || v > MOST_STEADY || v == book.steady) {
            return NONE;
        }
        past.keep(book);
        int was = book.steady;
        book.steady = v;
        return was;
    }

    public int undo() {
        if (past.size() == 0) {
            return NONE;
        }
        past.takeBack(book);
        return past.size();
    }

    // ---- asked

    public int of(int fleet, int what) {
        if (!book.hasFleet(fleet)) {
            return NONE;
        }
        ledger.reckon(book);
        switch (what) {
            case 0: return book.classOf(fleet);
            case 1: return book.yearsOf(fleet);
            case 2: return ledger.spanOf(fleet);
            case 3: return ledger.sumOf(fleet);
            case 4: return ledger.squaresOf(fleet);
            case 5: return book.claimsWith(fleet);
            case 6: return book.claimsAboveCap(fleet);
            case 7: return ledger.shareOf(fleet);
            default: return NONE;
        }
    }

    public int loss(int fleet, int year) {
        if (!book.hasFleet(fleet) || !isYear(year)) {
            return NONE;
        }
        if (!book.isInsured(fleet, year)) {
            return MISSING;
        }
        ledger.reckon(book);
        return ledger.lossOf(fleet, year);
    }

    public int claimOf(int claim, int what) {
        if (!book.hasClaim(claim)) {
            return NONE;
        }
        switch (what) {
            case 0: return book.fleetOf(claim);
            case 1: return book.yearOf(claim);
            case 2: return book.amountOf(claim);
            case 3: return book.countedOf(claim);
            default: return NONE;
        }
    }

    public int group(int cls, int what) {
        if (!isClass(cls)) {
            return NONE;
        }
        ledger.reckon(book);
        Pool pool = ledger.poolOf(cls);
        switch (what) {
            case 0: return pool.fleets;
            case 1: return pool.span;
            case 2: return pool.sum;
            case 3: return pool.span == 0 ? MISSING : pool.steadiness(book.steady);
            case 4: return book.fleetsIn(cls);
            case 5: return pool.shares;
            default: return NONE;
        }
    }

    public long spread(int cls, int what, boolean lower) {
        return isClass(cls) ? spreadIn(book, cls, what, lower) : NO_FRACTION;
    }

    public long whole(boolean lower) {
        ledger.reckon(book);
        ledger.putWhole(told);
        return told.part(lower);
    }

    public long rate(int fleet, boolean lower) {
        ledger.reckon(book);
        ledger.putRate(fleet, told);
        return told.part(lower);
    }

    public int thousandths(int fleet) {
        return rateIn(book, fleet);
    }

    public int ranked(int k) {
        ledger.reckon(book);
        for (int fleet = 0; fleet < book.fleets; fleet++) {
            if (ledger.isRated(fleet) && ledger.placeOf(fleet) == k) {
                return fleet;
            }
        }
        return NONE;
    }

    public int greatest(int fleet, int k) {
        for (int claim = 0; claim < book.claims; claim++) {
            if (book.fleetOf(claim) == fleet && book.placeOf(claim) == k) {
                return claim;
            }
        }
        return NONE;
    }

    public int worst(int year) {
        if (!isYear(year)) {
            return NONE;
        }
        ledger.reckon(book);
        int most = MISSING;
        for (int fleet = 0; fleet < book.fleets; fleet++) {
            if (book.isInsured(fleet, year)
                    && (most == MISSING || ledger.lossOf(fleet, year) > ledger.lossOf(most, year))) {
                most = fleet;
            }
        }
        return most;
    }

    public int dearestOf(int cls) {
        if (!isClass(cls)) {
            return NONE;
        }
        ledger.reckon(book);
        int most = MISSING;
        for (int fleet = 0; fleet < book.fleets; fleet++) {
            if (book.classOf(fleet) == cls && ledger.isRated(fleet)
                    && (most == MISSING || ledger.compareRates(fleet, most) > 0)) {
                most = fleet;
            }
        }
        return most;
    }

    public int claimsIn(int year) {
        return isYear(year) ? book.claimsOfYear(year) : NONE;
    }

    public int gap(int fleet, int other) {
        int one = rateIn(book, fleet);
        int two = rateIn(book, other);
        return one < 0 || two < 0 ? NO_GAP : one - two;
    }

    public int premium(int fleet, int months) {
        if (months < 1 || months > MOST_MONTHS) {
            return NONE;
        }
        int year = rateIn(book, fleet);
        return year < 0 ? year : year * months / 12;
    }

    // ---- were

    public int shareBy(int fleet, int n) {
        if (!book.hasFleet(fleet) || n < 1 || n > MOST_SPAN) {
            return NONE;
        }
        ledger.reckon(book);
        return ledger.isRated(fleet) ? ledger.shareBySpan(fleet, n) : MISSING;
    }

    public int yearsFor(int fleet, int share) {
        if (!book.hasFleet(fleet) || share < 1 || share > FULL) {
            return NONE;
        }
        ledger.reckon(book);
        if (!ledger.isRated(fleet)) {
            return MISSING;
        }
        for (int n = 1; n <= MOST_SPAN; n++) {
            if (ledger.shareBySpan(fleet, n) >= share) {
                return n;
            }
        }
        return MISSING;
    }

    public int inClass(int fleet, int cls) {
        if (!book.hasFleet(fleet) || !isClass(cls)) {
            return NONE;
        }
        trial.copyFrom(book);
        trial.putClass(fleet, cls);
        return rateIn(trial, fleet);
    }

    public int bestClass(int fleet) {
        int least = inClass(fleet, 0);
        if (least < 0) {
            return least;
        }
        int best = 0;
        for (int cls = 1; cls < CLASSES; cls++) {
            int rate = inClass(fleet, cls);
            if (rate < least) {
                least = rate;
                best = cls;
            }
        }
        return best;
    }

    public int byCap(int fleet, int cap) {
        if (!book.hasFleet(fleet) || !isAmount(cap)) {
            return NONE;
        }
        trial.copyFrom(book);
        trial.cap = cap;
        return rateIn(trial, fleet);
    }

    public int capFor(int fleet) {
        int due = byCap(fleet, MOST_AMOUNT);
        if (due < 0) {
            return due;
        }
        for (int cap = 1; cap < MOST_AMOUNT; cap++) {
            if (byCap(fleet, cap) == due) {
                return cap;
            }
        }
        return MOST_AMOUNT;
    }

    public int early(int fleet, int year) {
        if (!book.hasFleet(fleet) || year < 1 || year > YEARS) {
            return NONE;
        }
        tryEarly(year);
        return rateIn(trial, fleet);
    }

    public int earlyShare(int fleet, int year) {
        if (!book.hasFleet(fleet) || year < 1 || year > YEARS) {
            return NONE;
        }
        tryEarly(year);
        ledger.reckon(trial);
        return ledger.shareOf(fleet);
    }

    public int withoutFleet(int fleet, int other) {
        if (!book.hasFleet(fleet) || !book.hasFleet(other) || fleet == other) {
            return NONE;
        }
        trial.copyFrom(book);
        trial.dropFleet(other);
        return rateIn(trial, fleet > other ? fleet - 1 : fleet);
    }

    public long joined(int cls, int other, int what, boolean lower) {
        if (!isClass(cls) || !isClass(other) || cls == other) {
            return NO_FRACTION;
        }
        trial.copyFrom(book);
        trial.moveAll(cls, other);
        return spreadIn(trial, other, what, lower);
    }

    public int withoutClaim(int fleet, int claim) {
        if (!book.hasFleet(fleet) || !book.hasClaim(claim)) {
            return NONE;
        }
        trial.copyFrom(book);
        trial.dropClaim(claim);
        return rateIn(trial, fleet);
    }

    public int dearest() {
        keepRatesNow();
        int first = MISSING;
        int most = 0;
        for (int claim = 0; claim < book.claims; claim++) {
            int fleet = book.fleetOf(claim);
            if (!book.hasFleet(fleet)) {
                continue;
            }
            int less = ratesNow[fleet] - withoutClaim(fleet, claim);
            if (first == MISSING || less > most) {
                first = claim;
                most = less;
            }
        }
        return first;
    }

    // ---- texts

    public int report(int fleet, int i) {
        if (!book.hasFleet(fleet) || i < NONE) {
            return NONE;
        }
        ledger.reckon(book);
        pen.begin(i);
        pen.writeNamed("fleet", fleet);
        pen.writeNamed(" class", book.classOf(fleet));
        pen.writeNamed(" years", ledger.spanOf(fleet));
        if (ledger.isRated(fleet)) {
            pen.writeNamed(" share", ledger.shareOf(fleet));
            pen.writeNamed(" rate", ledger.rateCut(fleet));
        }
        pen.writeEnd();
        return pen.answer();
    }

    public int spell(int i) {
        if (i < NONE) {
            return NONE;
        }
        pen.begin(i);
        pen.writeNamed("cap", book.cap);
        pen.writeEnd();
        pen.writeNamed("steady", book.steady);
        pen.writeEnd();
        for (int fleet = 0; fleet < book.fleets; fleet++) {
            spellFleet(fleet);
        }
        for (int claim = 0; claim < book.claims; claim++) {
            spellClaim(claim);
        }
        return pen.answer();
    }

    public int count(int what) {
        switch (what) {
            case 0: return book.fleets;
            case 1: return book.claims;
            case 2: return book.cap;
            case 3: return book.steady;
            case 4: return past.size();
            case 5: return tape.size();
            case 6: return book.allClaimsAboveCap();
            case 7: return book.fleetsWithoutYears();
            case 8: return book.yearsOfAll();
            default: return NONE;
        }
    }

    // ---- what several calls need

    private static boolean isClass(int cls) {
        return cls >= 0 && cls < CLASSES;
    }

    private static boolean isYear(int year) {
        return year >= 0 && year < YEARS;
    }

    private static boolean isAmount(int amount) {
        return amount >= 1 && amount <= MOST_AMOUNT;
    }

    private int rateIn(Book some, int fleet) {
        if (!some.hasFleet(fleet)) {
            return NONE;
        }
        ledger.reckon(some);
        return ledger.rateCut(fleet);
    }

    private long spreadIn(Book some, int cls, int what, boolean lower) {
        ledger.reckon(some);
        ledger.putSpread(cls, what, told);
        return told.part(lower);
    }

    private void tryEarly(int year) {
        trial.copyFrom(book);
        trial.endYearsOfAll(ALL_YEARS & -1 << year);
    }

    private void keepRatesNow() {
        ledger.reckon(book);
        for (int fleet = 0; fleet < ratesNow.length; fleet++) {
            ratesNow[fleet] = ledger.rateCut(fleet);
        }
    }

    private void spellFleet(int fleet) {
        pen.writeNamed("fleet", book.classOf(fleet));
        for (int year = 0; year < YEARS; year++) {
            if (book.isInsured(fleet, year)) {
                pen.writeBehind(year);
            }
        }
        pen.writeEnd();
    }

    private void spellClaim(int claim) {
        pen.writeNamed("claim", book.fleetOf(claim));
        pen.writeBehind(book.yearOf(claim));
        pen.writeBehind(book.amountOf(claim));
        pen.writeEnd();
    }

    /** Fleets, claims, cap and steady: as they are, or as they were in a trial. */
    private static final class Book {
        /** Rows that one book takes in the past: four numbers, two rows of fleets, one of claims. */
        static final int ROWS = 4 + 2 * MOST_FLEETS + MOST_CLAIMS;

        private static final int FLEET_BITS = 10;
        private static final int YEAR_BITS = 7;

        int fleets;
        int claims;
        int cap;
        int steady;
        private final int[] classes;
        private final int[] years;
        /** A claim is one number (fleet, year, amount in its bits), so that the past stays small. */
        private final int[] slips;

        Book() {
            cap = FIRST_CAP;
            steady = FIRST_STEADY;
            classes = new int[MOST_FLEETS];
            years = new int[MOST_FLEETS];
            slips = new int[MOST_CLAIMS];
        }

        void clear() {
            fleets = 0;
            claims = 0;
            cap = FIRST_CAP;
            steady = FIRST_STEADY;
        }

        void copyFrom(Book other) {
            fleets = other.fleets;
            claims = other.claims;
            cap = other.cap;
            steady = other.steady;
            System.arraycopy(other.classes, 0, classes, 0, MOST_FLEETS);
            System.arraycopy(other.years, 0, years, 0, MOST_FLEETS);
            System.arraycopy(other.slips, 0, slips, 0, MOST_CLAIMS);
        }

        void saveTo(int[] rows, int from) {
            if (from < 0 || from > rows.length - ROWS) {
                return;
            }
            rows[from] = fleets;
            rows[from + 1] = claims;
            rows[from + 2] = cap;
            rows[from + 3] = steady;
            System.arraycopy(classes, 0, rows, from + 4, MOST_FLEETS);
            System.arraycopy(years, 0, rows, from + 4 + MOST_FLEETS, MOST_FLEETS);
            System.arraycopy(slips, 0, rows, from + 4 + 2 * MOST_FLEETS, MOST_CLAIMS);
        }

        void loadFrom(int[] rows, int from) {
            if (from < 0 || from > rows.length - ROWS) {
                return;
            }
            fleets = rows[from];
            claims = rows[from + 1];
            cap = rows[from + 2];
            steady = rows[from + 3];
            System.arraycopy(rows, from + 4, classes, 0, MOST_FLEETS);
            System.arraycopy(rows, from + 4 + MOST_FLEETS, years, 0, MOST_FLEETS);
            System.arraycopy(rows, from + 4 + 2 * MOST_FLEETS, slips, 0, MOST_CLAIMS);
        }

        // -- fleets

        boolean hasFleet(int fleet) {
            return fleet >= 0 && fleet < fleets && fleet < MOST_FLEETS;
        }

        int classOf(int fleet) {
            return hasFleet(fleet) ? classes[fleet] : NONE;
        }

        int yearsOf(int fleet) {
            return hasFleet(fleet) ? years[fleet] : 0;
        }

        boolean isInsured(int fleet, int year) {
            return hasFleet(fleet) && isYear(year) && (years[fleet] >> year & 1) == 1;
        }

        void putClass(int fleet, int cls) {
            if (hasFleet(fleet)) {
                classes[fleet] = cls;
            }
        }

        void putYears(int fleet, int set) {
            if (hasFleet(fleet)) {
                years[fleet] = set;
            }
        }

        int addFleet(int cls, int set) {
            if (fleets >= MOST_FLEETS) {
                return NONE;
            }
            fleets++;
            putClass(fleets - 1, cls);
            putYears(fleets - 1, set);
            return fleets - 1;
        }

        void dropFleet(int fleet) {
            if (hasFleet(fleet)) {
                dropClaimsOf(fleet, ALL_YEARS);
                closeGapAt(fleet);
            }
        }

        /** Its claims have gone or have become another one's ahead of this. */
        private void closeGapAt(int fleet) {
            for (int above = fleet + 1; above < fleets; above++) {
                putClass(above - 1, classOf(above));
                putYears(above - 1, yearsOf(above));
            }
            fleets--;
            for (int claim = 0; claim < claims; claim++) {
                if (fleetOf(claim) > fleet) {
                    putFleet(claim, fleetOf(claim) - 1);
                }
            }
        }

        int endYears(int fleet, int set) {
            putYears(fleet, yearsOf(fleet) & ~set);
            return dropClaimsOf(fleet, set);
        }

        void endYearsOfAll(int set) {
            for (int fleet = 0; fleet < fleets; fleet++) {
                endYears(fleet, set);
            }
        }

        int moveAll(int cls, int other) {
            int moved = 0;
            for (int fleet = 0; fleet < fleets; fleet++) {
                if (classOf(fleet) == cls) {
                    putClass(fleet, other);
                    moved++;
                }
            }
            return moved;
        }

        void exchange(int fleet, int other) {
            int cls = classOf(fleet);
            int set = yearsOf(fleet);
            putClass(fleet, classOf(other));
            putYears(fleet, yearsOf(other));
            putClass(other, cls);
            putYears(other, set);
            for (int claim = 0; claim < claims; claim++) {
                if (fleetOf(claim) == fleet) {
                    putFleet(claim, other);
                } else if (fleetOf(claim) == other) {
                    putFleet(claim, fleet);
                }
            }
        }

        int splitOff(int fleet, int set) {
            int added = addFleet(classOf(fleet), set);
            if (added == NONE) {
                return NONE;
            }
            putYears(fleet, yearsOf(fleet) & ~set);
            handOver(fleet, set, added);
            return added;
        }

        int mergeInto(int fleet, int other) {
            putYears(other, yearsOf(other) | yearsOf(fleet));
            handOver(fleet, ALL_YEARS, other);
            closeGapAt(fleet);
            return other > fleet ? other - 1 : other;
        }

        int countInsured(int year) {
            int insured = 0;
            for (int fleet = 0; fleet < fleets; fleet++) {
                if (isInsured(fleet, year)) {
                    insured++;
                }
            }
            return insured;
        }

        int fleetsIn(int cls) {
            int set = 0;
            for (int fleet = 0; fleet < fleets; fleet++) {
                if (classOf(fleet) == cls) {
                    set |= 1 << fleet;
                }
            }
            return set;
        }

        int fleetsWithoutYears() {
            int without = 0;
            for (int fleet = 0; fleet < fleets; fleet++) {
                if (yearsOf(fleet) == 0) {
                    without++;
                }
            }
            return without;
        }

        int yearsOfAll() {
            int set = 0;
            for (int fleet = 0; fleet < fleets; fleet++) {
                set |= yearsOf(fleet);
            }
            return set;
        }

        // -- claims

        boolean hasClaim(int claim) {
            return claim >= 0 && claim < claims && claim < MOST_CLAIMS;
        }

        int fleetOf(int claim) {
            return hasClaim(claim) ? slips[claim] >> FLEET_BITS : NONE;
        }

        int yearOf(int claim) {
            return hasClaim(claim) ? slips[claim] >> YEAR_BITS & 7 : NONE;
        }

        int amountOf(int claim) {
            return hasClaim(claim) ? slips[claim] & 127 : 0;
        }

        private boolean isOf(int claim, int fleet, int yearSet) {
            return hasClaim(claim) && slips[claim] >> FLEET_BITS == fleet
                    && (yearSet >> (slips[claim] >> YEAR_BITS & 7) & 1) == 1;
        }

        int countedOf(int claim) {
            return hasClaim(claim) ? Math.min(slips[claim] & 127, cap) : 0;
        }

        private void putClaim(int claim, int fleet, int year, int amount) {
            if (hasClaim(claim)) {
                slips[claim] = fleet << FLEET_BITS | year << YEAR_BITS | amount;
            }
        }

        void putAmount(int claim, int amount) {
            putClaim(claim, fleetOf(claim), yearOf(claim), amount);
        }

        private void putFleet(int claim, int fleet) {
            putClaim(claim, fleet, yearOf(claim), amountOf(claim));
        }

        boolean canClaim(int fleet, int year) {
            if (claims >= MOST_CLAIMS || !isInsured(fleet, year)) {
                return false;
            }
            int had = 0;
            for (int claim = 0; claim < claims; claim++) {
                had += isOf(claim, fleet, 1 << year) ? 1 : 0;
            }
            return had < MOST_OF_ONE_YEAR;
        }

        int addClaim(int fleet, int year, int amount) {
            if (claims >= MOST_CLAIMS) {
                return NONE;
            }
            claims++;
            putClaim(claims - 1, fleet, year, amount);
            return claims - 1;
        }

        void dropClaim(int claim) {
            if (hasClaim(claim)) {
                System.arraycopy(slips, claim + 1, slips, claim, claims - claim - 1);
                claims--;
            }
        }

        private int dropClaimsOf(int fleet, int set) {
            int had = claims;
            int kept = 0;
            for (int claim = 0; claim < had; claim++) {
                if (!isOf(claim, fleet, set)) {
                    putClaim(kept, fleetOf(claim), yearOf(claim), amountOf(claim));
                    kept++;
                }
            }
            claims = kept;
            return had - kept;
        }

        private void handOver(int fleet, int set, int other) {
            for (int claim = 0; claim < claims; claim++) {
                if (isOf(claim, fleet, set)) {
                    putFleet(claim, other);
                }
            }
        }

        int scaleAmounts(int fleet, int percent) {
            int changed = 0;
            for (int claim = 0; claim < claims; claim++) {
                if (fleetOf(claim) == fleet) {
                    int was = amountOf(claim);
                    putAmount(claim, Math.max(1, Math.min(MOST_AMOUNT, was * percent / 100)));
                    changed += amountOf(claim) == was ? 0 : 1;
                }
            }
            return changed;
        }

        int claimsWith(int fleet) {
            int with = 0;
            for (int claim = 0; claim < claims; claim++) {
                with += fleetOf(claim) == fleet ? 1 : 0;
            }
            return with;
        }

        int claimsOfYear(int year) {
            int of = 0;
            for (int claim = 0; claim < claims; claim++) {
                of += yearOf(claim) == year ? 1 : 0;
            }
            return of;
        }

        int claimsAboveCap(int fleet) {
            int above = 0;
            for (int claim = 0; claim < claims; claim++) {
                above += fleetOf(claim) == fleet && amountOf(claim) > cap ? 1 : 0;
            }
            return above;
        }

        int allClaimsAboveCap() {
            int above = 0;
            for (int fleet = 0; fleet < fleets; fleet++) {
                above += claimsAboveCap(fleet);
            }
            return above;
        }

        /** Where a claim stands among its fleet's own, the greatest first. */
        int placeOf(int claim) {
            int ahead = 0;
            for (int other = 0; other < claims; other++) {
                if (fleetOf(other) == fleetOf(claim) && (amountOf(other) > amountOf(claim)
                        || amountOf(other) == amountOf(claim) && other < claim)) {
                    ahead++;
                }
            }
            return ahead;
        }
    }

    /** Books as they stood ahead of the latest acts, in a ring. */
    private static final class Past {
        private final int[] rows;
        private int kept;
        private int next;

        Past() {
            rows = new int[MOST_ACTS * Book.ROWS];
        }

        int size() {
            return kept;
        }

        void empty() {
            kept = 0;
        }

        void keep(Book book) {
            book.saveTo(rows, next * Book.ROWS);
            next = (next + 1) % MOST_ACTS;
            kept = Math.min(kept + 1, MOST_ACTS);
        }

        void takeBack(Book book) {
            if (kept > 0) {
                next = (next + MOST_ACTS - 1) % MOST_ACTS;
                kept--;
                book.loadFrom(rows, next * Book.ROWS);
            }
        }
    }

    /** What a book's fleets and classes come to. */
    private static final class Ledger {
        private int fleets;
        private int allSum;
        private int allSpan;
        private final int[] classes;
        private final int[] losses;
        private final int[] spans;
        private final int[] sums;
        private final int[] squares;
        private final int[] shares;
        private final Pool poolA;
        private final Pool poolB;
        private final Pool poolC;
        private final Ratio first;
        private final Ratio second;

        Ledger() {
            classes = new int[MOST_FLEETS];
            losses = new int[MOST_FLEETS * YEARS];
            spans = new int[MOST_FLEETS];
            sums = new int[MOST_FLEETS];
            squares = new int[MOST_FLEETS];
            shares = new int[MOST_FLEETS];
            poolA = new Pool();
            poolB = new Pool();
            poolC = new Pool();
            first = new Ratio();
            second = new Ratio();
        }

        void reckon(Book book) {
            fleets = Math.min(book.fleets, MOST_FLEETS);
            sumLosses(book);
            poolA.clear();
            poolB.clear();
            poolC.clear();
            allSum = 0;
            allSpan = 0;
            for (int fleet = 0; fleet < fleets; fleet++) {
                reckonFleet(book, fleet);
            }
            poolA.settle();
            poolB.settle();
            poolC.settle();
            for (int fleet = 0; fleet < fleets; fleet++) {
                reckonShare(fleet);
            }
            putWhole(first);
            poolA.reckonBase(book.steady, first);
            poolB.reckonBase(book.steady, first);
            poolC.reckonBase(book.steady, first);
        }

        private void sumLosses(Book book) {
            Arrays.fill(losses, 0);
            for (int claim = 0; claim < book.claims; claim++) {
                int row = book.fleetOf(claim) * YEARS + book.yearOf(claim);
                if (row >= 0 && row < losses.length) {
                    losses[row] += book.countedOf(claim);
                }
            }
        }

        private void reckonFleet(Book book, int fleet) {
            if (!hasRow(fleet)) {
                return;
            }
            classes[fleet] = book.classOf(fleet);
            spans[fleet] = Integer.bitCount(book.yearsOf(fleet));
            sums[fleet] = 0;
            squares[fleet] = 0;
            for (int year = 0; year < YEARS; year++) {
                int lost = lossOf(fleet, year);
                sums[fleet] += lost;
                squares[fleet] += lost * lost;
            }
            if (spans[fleet] > 0) {
                poolOf(classes[fleet]).addFleet(spans[fleet], sums[fleet], squares[fleet]);
                allSum += sums[fleet];
                allSpan += spans[fleet];
            }
        }

        private void reckonShare(int fleet) {
            if (!hasRow(fleet)) {
                return;
            }
            shares[fleet] = MISSING;
            if (spans[fleet] > 0) {
                Pool pool = poolOf(classes[fleet]);
                shares[fleet] = pool.shareBySpan(spans[fleet]);
                pool.addShare(spans[fleet], sums[fleet], shares[fleet]);
            }
        }

        private boolean hasRow(int fleet) {
            return fleet >= 0 && fleet < fleets;
        }

        boolean isRated(int fleet) {
            return hasRow(fleet) && spans[fleet] > 0;
        }

        int spanOf(int fleet) {
            return hasRow(fleet) ? spans[fleet] : 0;
        }

        int sumOf(int fleet) {
            return hasRow(fleet) ? sums[fleet] : 0;
        }

        int squaresOf(int fleet) {
            return hasRow(fleet) ? squares[fleet] : 0;
        }

        int shareOf(int fleet) {
            return hasRow(fleet) ? shares[fleet] : MISSING;
        }

        int lossOf(int fleet, int year) {
            return hasRow(fleet) && isYear(year) ? losses[fleet * YEARS + year] : 0;
        }

        Pool poolOf(int cls) {
            if (cls == 0) {
                return poolA;
            }
            return cls == 1 ? poolB : poolC;
        }

        int shareBySpan(int fleet, int span) {
            return hasRow(fleet) ? poolOf(classes[fleet]).shareBySpan(span) : 0;
        }

        void putWhole(Ratio into) {
            into.put(allSum, allSpan);
        }

        void putRate(int fleet, Ratio into) {
            into.putNone();
            if (isRated(fleet)) {
                Ratio base = poolOf(classes[fleet]).base;
                long share = shares[fleet];
                long span = spans[fleet];
                into.put(share * sums[fleet] * base.lower + (FULL - share) * base.upper * span,
                        FULL * span * base.lower);
            }
        }

        int rateCut(int fleet) {
            putRate(fleet, first);
            return first.inThousandths();
        }

        void putSpread(int cls, int what, Ratio into) {
            Pool pool = poolOf(cls);
            switch (what) {
                case 0: pool.putWithin(into); break;
                case 1: pool.putBetween(into); break;
                case 2: pool.putCentre(into); break;
                case 3: into.put(pool.base.upper, pool.base.lower); break;
                case 4: pool.putOff(into); break;
                default: into.putNone(); break;
            }
        }

        int compareRates(int fleet, int other) {
            putRate(fleet, first);
            putRate(other, second);
            return first.compareWith(second);
        }

        /** Where a fleet stands among those that have a rate, the greatest first. */
        int placeOf(int fleet) {
            int ahead = 0;
            for (int other = 0; other < fleets; other++) {
                if (other != fleet && isRated(other)) {
                    int order = compareRates(other, fleet);
                    ahead += order > 0 || order == 0 && other < fleet ? 1 : 0;
                }
            }
            return ahead;
        }
    }

    /**
     * The sums of one class. No fraction is made less on the way: by the bounds of fleets, years and
     * amounts all of them stay far inside a long (the greatest, OFF, below 10 to the 18th).
     */
    private static final class Pool {
        /** A fleet's n (1 .. 5) divides it, so that what is by n is whole by it. */
        private static final int PARTS = 60;

        int fleets;
        int span;
        int sum;
        int shares;
        final Ratio base;
        private long spanSquares;
        private long lossSquares;
        private long meanSquares;
        private long freedom;
        private long unlikeSpans;
        /** WITHIN times PARTS times freedom. */
        private long within;
        /** BETWEEN times PARTS times freedom times unlikeSpans; 0 also if it is none. */
        private long between;
        private long weightedMeans;
        private long ownLosses;
        private long restSpans;

        Pool() {
            base = new Ratio();
        }

        void clear() {
            fleets = 0;
            span = 0;
            sum = 0;
            shares = 0;
            spanSquares = 0;
            lossSquares = 0;
            meanSquares = 0;
            weightedMeans = 0;
            ownLosses = 0;
            restSpans = 0;
        }

        void addFleet(int n, int s, int q) {
            if (n > 0) {
                fleets++;
                span += n;
                sum += s;
                spanSquares += n * n;
                lossSquares += (long) PARTS * q;
                meanSquares += (long) s * s * (PARTS / n);
            }
        }

        /** When all fleets have been added. */
        void settle() {
            freedom = span - fleets;
            unlikeSpans = (long) span * span - spanSquares;
            within = lossSquares - meanSquares;
            between = 0;
            if (hasBetween()) {
                between = Math.max(0, meanSquares * span * freedom
                        - (long) PARTS * sum * sum * freedom
                        - (fleets - 1) * within * span);
            }
        }

        void addShare(int n, int s, int share) {
            if (n > 0) {
                shares += share;
                weightedMeans += (long) s * share * (PARTS / n);
                ownLosses += (long) s * share;
                restSpans += (long) n * (FULL - share);
            }
        }

        private boolean hasBetween() {
            return fleets >= 2 && freedom > 0;
        }

        void putWithin(Ratio into) {
            into.put(within, PARTS * freedom);
        }

        void putBetween(Ratio into) {
            into.putNone();
            if (hasBetween()) {
                into.put(between, PARTS * freedom * unlikeSpans);
            }
        }

        int shareBySpan(int n) {
            long own = n * between;
            long all = own + within * unlikeSpans;
            return own > 0 && all > 0 ? (int) (FULL * own / all) : 0;
        }

        void putCentre(Ratio into) {
            if (shares == 0) {
                into.put(sum, span);
            } else {
                into.put(weightedMeans, (long) PARTS * shares);
            }
        }

        int steadiness(int steady) {
            int all = span + steady;
            return all > 0 ? FULL * span / all : 0;
        }

        void reckonBase(int steady, Ratio whole) {
            putCentre(base);
            if (!base.isNone() && !whole.isNone()) {
                long own = steadiness(steady);
                base.put(own * base.upper * whole.lower + (FULL - own) * whole.upper * base.lower,
                        FULL * base.lower * whole.lower);
            }
        }

        void putOff(Ratio into) {
            into.putNone();
            if (!base.isNone()) {
                into.put((ownLosses - (long) FULL * sum) * base.lower + restSpans * base.upper,
                        FULL * base.lower);
            }
        }
    }

    /** A fraction, or none, if its lower part is 0. */
    private static final class Ratio {
        private static final int MOST_STEPS = 200;

        long upper;
        long lower;

        void put(long newUpper, long newLower) {
            upper = newUpper;
            lower = newLower;
        }

        void putNone() {
            upper = 0;
            lower = 0;
        }

        boolean isNone() {
            return lower <= 0;
        }

        long part(boolean ofLower) {
            if (isNone()) {
                return NO_FRACTION;
            }
            long common = commonDivisor();
            long part = ofLower ? lower : upper;
            return common > 0 ? part / common : part;
        }

        private long commonDivisor() {
            long greater = lower;
            long less = Math.abs(upper);
            for (int step = 0; step < MOST_STEPS && less > 0; step++) {
                long rest = greater % less;
                greater = less;
                less = rest;
            }
            return greater;
        }

        /** In two steps, as a thousand times the upper part could go beyond a long. */
        int inThousandths() {
            if (isNone()) {
                return MISSING;
            }
            return (int) (upper / lower * FULL + upper % lower * FULL / lower);
        }

        /** By Euclid's steps, as one upper part times the other lower one could go beyond a long. */
        int compareWith(Ratio other) {
            if (isNone() || other.isNone()) {
                return 0;
            }
            long a = upper;
            long b = lower;
            long c = other.upper;
            long d = other.lower;
            int sign = 1;
            for (int step = 0; step < MOST_STEPS && b > 0 && d > 0; step++) {
                long one = a / b;
                long two = c / d;
                if (one != two) {
                    return one > two ? sign : -sign;
                }
                long restOne = a % b;
                long restTwo = c % d;
                a = b;
                b = restOne;
                c = d;
                d = restTwo;
                sign = -sign;
            }
            // A rest of 0 stands below every other one; the last turn has already changed the sign.
            if (b == 0 && d == 0) {
                return 0;
            }
            return b == 0 ? sign : -sign;
        }
    }

    /** Bytes fed and not yet read, and how they are read as a TEXT. */
    private static final class Tape {
        private static final int CAP_WORD = 0;
        private static final int STEADY_WORD = 1;
        private static final int FLEET_WORD = 2;
        private static final int CLAIM_WORD = 3;

        private final byte[] bytes;
        private int size;
        private int at;
        private int fault;
        /** Where the latest number began: a FAULT of it is told there. */
        private int begin;

        Tape() {
            bytes = new byte[MOST_BYTES];
        }

        int size() {
            return size;
        }

        void addFour(int word) {
            addByte(word >>> 24);
            addByte(word >>> 16);
            addByte(word >>> 8);
            addByte(word);
        }

        private void addByte(int value) {
            if (size < bytes.length) {
                bytes[size] = (byte) value;
                size++;
            }
        }

        void dropLast(int n) {
            if (n >= 0 && n <= size) {
                size -= n;
            }
        }

        /** NONE behind the end: no byte that may stand anywhere. */
        private int byteAt(int i) {
            return i >= 0 && i < size ? bytes[i] & 255 : NONE;
        }

        /** NONE, or the FAULT; the book holds what was read ahead of it, too. */
        int readInto(Book book) {
            book.clear();
            at = 0;
            fault = NONE;
            skipGaps();
            for (int told = 0; told < size && at < size && fault == NONE; told++) {
                readSentence(book);
                skipGaps();
            }
            return fault;
        }

        private void readSentence(Book book) {
            switch (readWord(book)) {
                case CAP_WORD: book.cap = readNumber(1, MOST_AMOUNT); break;
                case STEADY_WORD: book.steady = readNumber(0, MOST_STEADY); break;
                case FLEET_WORD: readFleet(book); break;
                case CLAIM_WORD: readClaim(book); break;
                default: break;
            }
            readEnd();
        }

        private int readWord(Book book) {
            int start = at;
            skipLetters();
            int word = NONE;
            if (isWord(start, "cap")) {
                word = CAP_WORD;
            } else if (isWord(start, "steady")) {
                word = STEADY_WORD;
            } else if (isWord(start, "fleet") && book.fleets < MOST_FLEETS) {
                word = FLEET_WORD;
            } else if (isWord(start, "claim") && book.claims < MOST_CLAIMS) {
                word = CLAIM_WORD;
            }
            if (word == NONE) {
                failAt(start);
            } else if (isDigit(byteAt(at))) {
                // Only here a gap can be wanting: two numbers or two words without one are one.
                failAt(at);
            }
            return word;
        }

        private void readFleet(Book book) {
            int cls = readNumber(0, CLASSES - 1);
            int set = 0;
            for (int told = 0; told < size && fault == NONE && !isEndNext(); told++) {
                set |= 1 << readNumber(0, YEARS - 1);
            }
            book.addFleet(cls, set);
        }

        private void readClaim(Book book) {
            int fleet = readNumber(0, book.fleets - 1);
            int year = readNumber(0, YEARS - 1);
            if (!book.canClaim(fleet, year)) {
                failAt(begin);
            }
            book.addClaim(fleet, year, readNumber(1, MOST_AMOUNT));
        }

        /** Behind a FAULT it answers the least one, as the book is thrown away then. */
        private int readNumber(int least, int most) {
            skipGaps();
            begin = at;
            int value = 0;
            for (int i = at; i < size && isDigit(byteAt(i)); i++) {
                value = Math.min(value * 10 + byteAt(i) - '0', FULL);
                at = i + 1;
            }
            int digits = at - begin;
            if (digits < 1 || digits > 2 || value < least || value > most) {
                failAt(begin);
                return least;
            }
            return value;
        }

        private void readEnd() {
            if (isEndNext()) {
                at++;
            } else {
                failAt(at);
            }
        }

        private boolean isEndNext() {
            skipGaps();
            return byteAt(at) == ';';
        }

        /** The first FAULT holds, so that reading may go on behind it to the sentence's end. */
        private void failAt(int i) {
            if (fault == NONE) {
                fault = i;
            }
        }

        private boolean isWord(int start, String word) {
            if (at - start != word.length()) {
                return false;
            }
            for (int i = 0; i < word.length(); i++) {
                if (byteAt(start + i) != word.charAt(i)) {
                    return false;
                }
            }
            return true;
        }

        private void skipLetters() {
            for (int i = at; i < size && byteAt(i) >= 'a' && byteAt(i) <= 'z'; i++) {
                at = i + 1;
            }
        }

        private void skipGaps() {
            for (int i = at; i < size && (byteAt(i) == ' ' || byteAt(i) == '\n'); i++) {
                at = i + 1;
            }
        }

        private static boolean isDigit(int b) {
            return b >= '0' && b <= '9';
        }
    }

    /** Writes a text byte by byte without holding it: it counts, and remembers the one byte asked for. */
    private static final class Pen {
        private int wanted;
        private int written;
        private int found;

        void begin(int i) {
            wanted = i;
            written = 0;
            found = MISSING;
        }

        private void writeByte(int b) {
            if (written == wanted) {
                found = b;
            }
            written++;
        }

        void writeNamed(String word, int number) {
            for (int i = 0; i < word.length(); i++) {
                writeByte(word.charAt(i));
            }
            writeBehind(number);
        }

        void writeBehind(int number) {
            writeByte(' ');
            boolean begun = false;
            for (int place = 1000000000; place > 0; place /= 10) {
                int digit = number / place % 10;
                begun = begun || digit > 0 || place == 1;
                if (begun) {
                    writeByte('0' + digit);
                }
            }
        }

        void writeEnd() {
            writeByte(';');
        }

        int answer() {
            return wanted == NONE ? written : found;
        }
    }
}
