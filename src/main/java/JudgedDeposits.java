import java.util.Arrays;

/** Deposits judged: a home, its things, blows, claims and what is awarded when (see ../shared/DOC.md). */
public final class JudgedDeposits {
    private static final int LOW = -1000001;

    /* Findings by their order: the answer is LOW less this. */
    private static final int BEYOND = 0;
    private static final int FULL = 1;
    private static final int KIND = 2;
    private static final int NONE = 3;
    private static final int STATE = 4;
    private static final int MISSING = 5;
    private static final int SIZE = 6;
    private static final int FINDINGS = 7;

    /* What set(), home() number. */
    private static final int DEPOSIT = 0;
    private static final int PEOPLE = 1;
    private static final int FIRST = 2;
    private static final int FINAL = 3;
    private static final int SILENT = 4;
    private static final int ASKS = 5;
    private static final int BIDS = 6;
    private static final int HOME_FIELDS = 7;
    private static final int[] HOME_LEAST = {0, 1, 0, 0, 0, 0, 0};
    private static final int[] HOME_MOST = {9999, 9, 1, 1, 2, 9999, 9999};
    private static final int[] HOME_AT_FIRST = {1000, 2, 1, 1, 0, 0, 0};
    private static final int TENANT_SILENT = 1;
    private static final int OWNER_SILENT = 2;

    /* What of(), change() number; those from LIVES on are reckoned, not held. */
    private static final int TRAIT_KIND = 0;
    private static final int PRICE = 1;
    private static final int AGE = 2;
    private static final int WAS = 3;
    private static final int IS = 4;
    private static final int DAYS = 5;
    private static final int CLAIM = 6;
    private static final int LIVES = 7;
    private static final int WORTH = 8;
    private static final int FAIR = 9;
    private static final int WORSE = 10;
    private static final int AWARD = 11;
    private static final int TRAITS = 7;
    private static final int[] TRAIT_MOST = {6, 999, 9999, 99, 99, 9999, 999};

    private static final int THING = 0;
    private static final int CARPET = 1;
    private static final int WALL = 2;
    private static final int PAINT = 3;
    private static final int MURAL = 4;
    private static final int LAMP = 5;
    private static final int RUG = 6;
    private static final int KINDS = 7;
    private static final int[] KIND_ABOVE = {-1, THING, THING, WALL, PAINT, THING, CARPET};

    private static final int MOST_THINGS = 8;
    private static final int PLACES = 6;
    private static final int FORCES = 10;
    private static final int BEST_STATE = 99;
    private static final int LAST_DAY = 99999;
    private static final int FARTHEST_DAY = 200;
    private static final int MOST_SPOTS = 10;
    private static final int NOTHING = -1;
    private static final int MOST_SHEETS = 4;
    private static final int MOST_NUMBERS = 40;
    private static final int ASKED_NUMBERS = 10;
    private static final int ANY = -1;
    private static final int MOST_BYTES = 120;
    private static final int MOST_NUMBER = 9999;

    private final Estate estate = new Estate();
    private final Estate kept = new Estate();
    private final Estate trial = new Estate();
    private final Tape tape = new Tape();
    private final Sheet[] sheets = new Sheet[MOST_SHEETS];
    private final int[] found = new int[FINDINGS];
    private final int[] awards = new int[MOST_THINGS];
    private final int[] worses = new int[ASKED_NUMBERS];
    private boolean imageKept = false;

    public JudgedDeposits() {
        for (int s = 0; s < MOST_SHEETS; s++) {
            sheets[s] = new Sheet();
        }
    }

    // ---- home, things

    public int set(int what, int v) {
        if (!within(what, 0, HOME_FIELDS - 1) || !within(v, HOME_LEAST[what], HOME_MOST[what])) {
            return tell(BEYOND);
        }
        int before = estate.home[what];
        estate.home[what] = v;
        return before;
    }

    public int home(int what) {
        return within(what, 0, HOME_FIELDS - 1) ? estate.home[what] : tell(BEYOND);
    }

    public int blow(int i, int thing, int force) {
        if (!isPlace(i) || !within(thing, 0, MOST_THINGS - 1) || !isForce(force)) {
            return tell(BEYOND);
        }
        int before = estate.list[i];
        estate.list[i] = blowOf(thing, force);
        return before;
    }

    public int listed(int i) {
        return isPlace(i) ? estate.list[i] : tell(BEYOND);
    }

    public int thing(int kind, int price) {
        if (!isKind(kind) || !within(price, 0, TRAIT_MOST[PRICE])) {
            return tell(BEYOND);
        }
        if (estate.things >= MOST_THINGS) {
            return tell(FULL);
        }
        return estate.add(kind, price);
    }

    public int of(int thing, int what) {
        if (!isThing(thing) || !within(what, TRAIT_KIND, AWARD)) {
            return tell(BEYOND);
        }
        return estate.told(thing, what);
    }

    public int change(int thing, int what, int v) {
        if (!isThing(thing) || !within(what, 0, TRAITS - 1) || !within(v, 0, TRAIT_MOST[what])) {
            return tell(BEYOND);
        }
        int before = estate.trait(thing, what);
        estate.put(thing, what, v);
        return before;
    }

    public int hurts(int thing, int force) {
        return isThing(thing) && isForce(force) ? estate.hurt(thing, force) : tell(BEYOND);
    }

    // ---- days

    public int go(int n) {
        if (!within(n, 1, 60)) {
            return tell(BEYOND);
        }
        if (estate.day + n > LAST_DAY) {
            return tell(STATE);
        }
        estate.passDays(n);
        return estate.awarded();
    }

    public int now(int what) {
        switch (what) {
            case 0: return estate.day;
            case 1: return estate.awarded();
            case 2: return estate.home[DEPOSIT] - estate.awarded();
            case 3: return estate.sum(CLAIM);
            case 4: return estate.thingsWith(WORSE);
            case 5: return estate.thingsWith(AWARD);
            case 6: return estate.sum(WORTH);
            case 7: return estate.offersMeet() ? 1 : 0;
            default: return tell(BEYOND);
        }
    }

    // ---- what will be (nothing changes)

    public int ahead(int thing, int what, int n) {
        boolean asked = what == IS || within(what, WORTH, AWARD);
        if (!isThing(thing) || !asked || !within(n, 0, 100)) {
            return tell(BEYOND);
        }
        trial.become(estate);
        trial.passDays(n);
        return trial.told(thing, what);
    }

    public int judged(int n) {
        if (!within(n, 0, 100)) {
            return tell(BEYOND);
        }
        trial.become(estate);
        return awardedBehind(n);
    }

    public int worthless(int thing, int v) {
        if (!isThing(thing) || !within(v, 0, 999)) {
            return tell(BEYOND);
        }
        trial.become(estate);
        for (int n = 0; n <= FARTHEST_DAY; n++) {
            if (trial.told(thing, WORTH) <= v) {
                return n;
            }
            trial.passDay();
        }
        return tell(NONE);
    }

    public int owing(int thing, int v) {
        if (!isThing(thing) || !within(v, 0, 999)) {
            return tell(BEYOND);
        }
        trial.become(estate);
        for (int n = 0; n <= FARTHEST_DAY; n++) {
            if (trial.award(thing) >= v) {
                return n;
            }
            trial.passDay();
        }
        return tell(NONE);
    }

    public int forgiven() {
        trial.become(estate);
        for (int n = 0; n <= FARTHEST_DAY; n++) {
            if (trial.awarded() == 0) {
                return n;
            }
            trial.passDay();
        }
        return tell(NONE);
    }

    // ---- which claim, how many people

    public int claimFor(int thing, int n) {
        if (!isThing(thing) || !within(n, 0, 60)) {
            return tell(BEYOND);
        }
        trial.become(estate);
        // No WORTH is above the greatest CLAIM, so what that one wins is the most, and claiming just so much wins it too.
        trial.put(thing, CLAIM, TRAIT_MOST[CLAIM]);
        trial.passDays(n);
        return trial.award(thing);
    }

    public int peopleFor(int n) {
        if (!within(n, 0, 60)) {
            return tell(BEYOND);
        }
        int best = HOME_LEAST[PEOPLE];
        int least = HOME_MOST[DEPOSIT] + 1;
        for (int people = HOME_LEAST[PEOPLE]; people <= HOME_MOST[PEOPLE]; people++) {
            trial.become(estate);
            trial.home[PEOPLE] = people;
            int awarded = awardedBehind(n);
            if (awarded < least) {
                least = awarded;
                best = people;
            }
        }
        return best;
    }

    public int kindFor(int thing, int n) {
        if (!isThing(thing) || !within(n, 0, 60)) {
            return tell(BEYOND);
        }
        int best = THING;
        int least = HOME_MOST[DEPOSIT] + 1;
        for (int kind = 0; kind < KINDS; kind++) {
            trial.become(estate);
            trial.put(thing, TRAIT_KIND, kind);
            int awarded = awardedBehind(n);
            if (awarded < least) {
                least = awarded;
                best = kind;
            }
        }
        return best;
    }

    public int forceFor(int i, int v, int n) {
        if (!isPlace(i) || !within(v, 0, 9999) || !within(n, 0, 60)) {
            return tell(BEYOND);
        }
        int thing = thingOfBlow(estate.list[i]);
        for (int force = 0; force < FORCES; force++) {
            trial.become(estate);
            trial.list[i] = blowOf(thing, force);
            if (awardedBehind(n) >= v) {
                return force;
            }
        }
        return tell(NONE);
    }

    public int giveUp(int v, int n) {
        if (!within(v, 0, 9999) || !within(n, 0, 20)) {
            return tell(BEYOND);
        }
        trial.become(estate);
        trial.passDays(n);
        for (int thing = 0; thing < trial.things; thing++) {
            awards[thing] = trial.award(thing);
        }
        int best = NOTHING;
        for (int set = 0; set < 1 << trial.things; set++) {
            boolean fewer = best == NOTHING || Integer.bitCount(set) < Integer.bitCount(best);
            if (fewer && leftWithout(set) >= v) {
                best = set;
            }
        }
        return best == NOTHING ? tell(NONE) : best;
    }

    // ---- told awards

    public int fits(int s, int thing) {
        int lack = lackFor(s, thing);
        if (lack >= 0) {
            return tell(lack);
        }
        foreseeWorses(thing);
        int ages = 0;
        for (int age = 0; age <= 599; age++) {
            if (ageFits(sheets[s], thing, age)) {
                ages++;
            }
        }
        return ages;
    }

    public int kinds(int s, int thing) {
        int lack = lackFor(s, thing);
        if (lack >= 0) {
            return tell(lack);
        }
        int set = 0;
        for (int kind = 0; kind < KINDS; kind++) {
            if (kindFits(sheets[s], thing, kind)) {
                set |= 1 << kind;
            }
        }
        return set;
    }

    // ---- months

    public int month(int n) {
        if (!within(n, 1, 20)) {
            return tell(BEYOND);
        }
        if (estate.day + n > LAST_DAY) {
            return tell(STATE);
        }
        for (int i = 0; i < n; i++) {
            int thing = estate.draw() % MOST_THINGS;
            int force = estate.draw() % FORCES;
            estate.list[estate.day % PLACES] = blowOf(thing, force);
            estate.passDay();
        }
        return estate.awarded();
    }

    public long odds(int thing, int v, int n, int what) {
        if (!isThing(thing) || !within(v, 0, 99) || !within(n, 0, 18) || !within(what, 0, 1)) {
            return tell(BEYOND);
        }
        int good = 0;
        for (int force = 0; force < FORCES; force++) {
            if (estate.hurt(thing, force) <= v) {
                good++;
            }
        }
        // A power of a fraction in lowest terms is in lowest terms.
        int common = commonDivisor(good, FORCES);
        int base = what == 0 ? good : FORCES;
        return power(common > 0 ? base / common : base, n);
    }

    public int seed(int v) {
        int before = estate.z;
        estate.z = v;
        return before;
    }

    // ---- texts

    public int feed(int bytes, int n) {
        if (!within(n, 1, 4)) {
            return tell(BEYOND);
        }
        if (tape.length + n > MOST_BYTES) {
            return tell(FULL);
        }
        for (int i = n - 1; i >= 0; i--) {
            tape.append((byte) (bytes >> (8 * i)));
        }
        return tape.length;
    }

    public int wipe() {
        int before = tape.length;
        tape.length = 0;
        return before;
    }

    public int text() {
        // The trial takes the items, so that a fault leaves the estate as it was.
        trial.become(estate);
        int answer = tape.readItems(trial);
        if (answer >= 0) {
            estate.become(trial);
        }
        tape.length = 0;
        return answer;
    }

    // ---- spots, sheets

    public int hold(int spot, int thing) {
        if (!isSpot(spot) || (thing != NOTHING && !isThing(thing))) {
            return tell(BEYOND);
        }
        estate.spots[spot] = thing;
        return 1;
    }

    public int as(int spot, int kind) {
        if (!isSpot(spot) || !isKind(kind)) {
            return tell(BEYOND);
        }
        int thing = estate.spots[spot];
        if (!isThing(thing)) {
            return tell(MISSING);
        }
        return Kinds.isOf(estate.trait(thing, TRAIT_KIND), kind) ? thing : tell(KIND);
    }

    public int sheet(int s, int bits, int n) {
        boolean known = bits == 0 || bits == 8 || bits == 16 || bits == 32;
        if (!isSheet(s) || !known) {
            return tell(BEYOND);
        }
        if (n < 0) {
            return tell(SIZE);
        }
        if (n > MOST_NUMBERS) {
            return tell(BEYOND);
        }
        sheets[s].begin(bits, bits == 0 ? 0 : n);
        return sheets[s].size;
    }

    public int write(int s, int i, int v) {
        int lack = lackOf(s);
        if (lack >= 0) {
            return tell(lack);
        }
        if (!within(i, 0, sheets[s].size - 1)) {
            return tell(BEYOND);
        }
        sheets[s].put(i, v);
        return 1;
    }

    public int copy(int s, int from, int t, int to, int n) {
        if (!isSheet(s) || !isSheet(t)) {
            return tell(BEYOND);
        }
        Sheet source = sheets[s];
        Sheet target = sheets[t];
        if (source.bits == 0 || target.bits == 0) {
            return tell(MISSING);
        }
        if (source.bits != target.bits) {
            return tell(KIND);
        }
        if (!source.hasRow(from, n) || !target.hasRow(to, n)) {
            return tell(BEYOND);
        }
        System.arraycopy(source.numbers, from, target.numbers, to, n);
        return n;
    }

    public int load(int s) {
        int lack = lackOf(s);
        if (lack >= 0) {
            return tell(lack);
        }
        Sheet source = sheets[s];
        int most = Math.min(source.size, estate.things);
        for (int i = 0; i < most; i++) {
            if (!within(source.numbers[i], 0, TRAIT_MOST[CLAIM])) {
                return i;
            }
            estate.put(i, CLAIM, source.numbers[i]);
        }
        return most;
    }

    public int judge(int s) {
        int lack = lackOf(s);
        if (lack >= 0) {
            return tell(lack);
        }
        for (int i = 0; i < sheets[s].size; i++) {
            if (!isThing(i) || sheets[s].numbers[i] != estate.award(i)) {
                return 1 + i;
            }
        }
        return 0;
    }

    // ---- images

    public int image() {
        kept.become(estate);
        imageKept = true;
        return 1;
    }

    public int undo() {
        if (!imageKept) {
            return tell(NONE);
        }
        estate.become(kept);
        return estate.day;
    }

    public int tear() {
        int answer = imageKept ? 1 : 0;
        imageKept = false;
        return answer;
    }

    public int count(int what) {
        switch (what) {
            case 0: return estate.day;
            case 1: return estate.things;
            case 2: return estate.home[DEPOSIT];
            case 3: return estate.awarded();
            case 4: return estate.sum(CLAIM);
            case 5: return tape.length;
            case 6: return estate.z;
            case 7: return estate.heldSpots();
            default: return tell(BEYOND);
        }
    }

    public int status(int which) {
        if (which == -1) {
            int all = 0;
            for (int finding = 0; finding < FINDINGS; finding++) {
                all += found[finding];
            }
            return all;
        }
        return within(which, 0, FINDINGS - 1) ? found[which] : tell(BEYOND);
    }

    // ---- what the calls share

    private int tell(int finding) {
        if (within(finding, 0, FINDINGS - 1)) {
            found[finding]++;
        }
        return LOW - finding;
    }

    private static boolean within(int v, int least, int most) {
        return v >= least && v <= most;
    }

    private boolean isThing(int thing) {
        return within(thing, 0, estate.things - 1);
    }

    private static boolean isKind(int kind) {
        return within(kind, 0, KINDS - 1);
    }

    private static boolean isPlace(int i) {
        return within(i, 0, PLACES - 1);
    }

    private static boolean isForce(int force) {
        return within(force, 0, FORCES - 1);
    }

    private static boolean isSpot(int spot) {
        return within(spot, 0, MOST_SPOTS - 1);
    }

    private static boolean isSheet(int s) {
        return within(s, 0, MOST_SHEETS - 1);
    }

    /** The finding that a sheet calls for, or -1 if it can be read. */
    private int lackOf(int s) {
        if (!isSheet(s)) {
            return BEYOND;
        }
        return sheets[s].bits == 0 ? MISSING : -1;
    }

    private int lackFor(int s, int thing) {
        int lack = lackOf(s);
        if (lack >= 0) {
            return lack;
        }
        return isThing(thing) ? -1 : BEYOND;
    }

    private static int blowOf(int thing, int force) {
        return 10 * thing + force;
    }

    private static int thingOfBlow(int blow) {
        return blow / 10;
    }

    private static int forceOfBlow(int blow) {
        return blow % 10;
    }

    private int awardedBehind(int n) {
        trial.passDays(n);
        return trial.awarded();
    }

    private int leftWithout(int set) {
        int together = 0;
        for (int thing = 0; thing < trial.things; thing++) {
            if ((set >> thing & 1) == 0) {
                together += awards[thing];
            }
        }
        return trial.home[DEPOSIT] - trial.awardedOf(together);
    }

    /** AGE leaves WORSE as it is, so one look ahead serves all ages. */
    private void foreseeWorses(int thing) {
        trial.become(estate);
        for (int n = 0; n < ASKED_NUMBERS; n++) {
            worses[n] = trial.worse(thing);
            trial.passDay();
        }
    }

    private boolean ageFits(Sheet told, int thing, int age) {
        int kind = estate.trait(thing, TRAIT_KIND);
        int price = estate.trait(thing, PRICE);
        int claim = estate.trait(thing, CLAIM);
        int asked = Math.min(told.size, ASKED_NUMBERS);
        for (int n = 0; n < asked; n++) {
            int due = told.numbers[n];
            if (due != ANY && due != estate.awardOf(Kinds.worth(kind, price, age + n), worses[n], claim)) {
                return false;
            }
        }
        return true;
    }

    private boolean kindFits(Sheet told, int thing, int kind) {
        trial.become(estate);
        trial.put(thing, TRAIT_KIND, kind);
        int asked = Math.min(told.size, ASKED_NUMBERS);
        for (int n = 0; n < asked; n++) {
            int due = told.numbers[n];
            if (due != ANY && due != trial.award(thing)) {
                return false;
            }
            trial.passDay();
        }
        return true;
    }

    private static int commonDivisor(int a, int b) {
        int high = a;
        int low = b;
        for (int i = 0; i < 64 && low != 0; i++) {
            int rest = high % low;
            high = low;
            low = rest;
        }
        return high;
    }

    private static long power(int base, int n) {
        long product = 1;
        for (int i = 0; i < n; i++) {
            product *= base;
        }
        return product;
    }

    /** What the kinds do each in its own way. */
    private static final class Kinds {
        private static final int THING_LIVES = 500;
        private static final int CARPET_LIVES = THING_LIVES - 100;
        private static final int PAINT_LIVES = 200;

        private Kinds() {
        }

        static boolean isOf(int kind, int wanted) {
            int at = kind;
            for (int level = 0; level < KINDS && isKind(at); level++) {
                if (at == wanted) {
                    return true;
                }
                at = KIND_ABOVE[at];
            }
            return false;
        }

        static int lives(int kind, int price) {
            switch (kind) {
                case CARPET: return CARPET_LIVES;
                case RUG: return CARPET_LIVES / 2;
                case WALL: return 2 * THING_LIVES;
                case PAINT: return PAINT_LIVES;
                case MURAL: return PAINT_LIVES + price;
                case LAMP: return THING_LIVES - 200;
                default: return THING_LIVES;
            }
        }

        static int worth(int kind, int price, int age) {
            int lives = lives(kind, price);
            switch (kind) {
                case CARPET:
                case RUG: return Math.min(price, Math.max(20, shareLeft(price, age, lives)));
                case WALL: return price;
                case PAINT: return shareLeft(price / 2, age, lives);
                case MURAL: return shareLeft(price / 2, age, lives) + 50;
                default: return shareLeft(price, age, lives);
            }
        }

        private static int shareLeft(int whole, int age, int lives) {
            return lives > 0 ? whole * Math.max(0, lives - age) / lives : 0;
        }

        static int fair(int kind, int days, int people) {
            switch (kind) {
                case CARPET: return days / 20 + people;
                case RUG: return 2 * (days / 20 + people);
                case WALL: return days / 50;
                case PAINT: return days / 50 + 3;
                case MURAL: return 0;
                case LAMP: return days >= 100 ? BEST_STATE : days / 20;
                default: return days / 20;
            }
        }

        static int hurt(int kind, int force, int people) {
            switch (kind) {
                case CARPET:
                case RUG: return force > 0 ? 5 * force + people : 0;
                case WALL: return force;
                case PAINT: return 2 * force;
                case MURAL: return force > 0 ? 2 * force + 10 : 0;
                case LAMP: return force >= 5 ? BEST_STATE : 0;
                default: return 5 * force;
            }
        }
    }

    /** All that an image keeps: the home, the list, the things, the spots, the day and z. */
    private static final class Estate {
        private static final int MOST_AGE = 9999;

        private final int[] home = HOME_AT_FIRST.clone();
        private final int[] list = new int[PLACES];
        private final int[] traits = new int[MOST_THINGS * TRAITS];
        private final int[] spots = new int[MOST_SPOTS];
        private int things = 0;
        private int day = 0;
        private int z = 1;

        Estate() {
            Arrays.fill(spots, NOTHING);
        }

        void become(Estate other) {
            System.arraycopy(other.home, 0, home, 0, HOME_FIELDS);
            System.arraycopy(other.list, 0, list, 0, PLACES);
            System.arraycopy(other.traits, 0, traits, 0, other.things * TRAITS);
            System.arraycopy(other.spots, 0, spots, 0, MOST_SPOTS);
            things = other.things;
            day = other.day;
            z = other.z;
        }

        /** A new thing, where there is room for it: who calls has looked. */
        int add(int kind, int price) {
            if (things >= MOST_THINGS) {
                return NOTHING;
            }
            int thing = things;
            things++;
            put(thing, TRAIT_KIND, kind);
            put(thing, PRICE, price);
            put(thing, AGE, 0);
            put(thing, WAS, BEST_STATE);
            put(thing, IS, BEST_STATE);
            put(thing, DAYS, 0);
            put(thing, CLAIM, 0);
            return thing;
        }

        int trait(int thing, int what) {
            return traits[thing * TRAITS + what];
        }

        void put(int thing, int what, int v) {
            traits[thing * TRAITS + what] = v;
        }

        int told(int thing, int what) {
            switch (what) {
                case LIVES: return Kinds.lives(trait(thing, TRAIT_KIND), trait(thing, PRICE));
                case WORTH: return worth(thing);
                case FAIR: return fair(thing);
                case WORSE: return worse(thing);
                case AWARD: return award(thing);
                default: return within(what, 0, TRAITS - 1) ? trait(thing, what) : 0;
            }
        }

        int worth(int thing) {
            return Kinds.worth(trait(thing, TRAIT_KIND), trait(thing, PRICE), trait(thing, AGE));
        }

        int fair(int thing) {
            return Kinds.fair(trait(thing, TRAIT_KIND), trait(thing, DAYS), home[PEOPLE]);
        }

        int hurt(int thing, int force) {
            return Kinds.hurt(trait(thing, TRAIT_KIND), force, home[PEOPLE]);
        }

        int worse(int thing) {
            return Math.max(0, trait(thing, WAS) - trait(thing, IS) - fair(thing));
        }

        int award(int thing) {
            int worth = Kinds.worth(trait(thing, TRAIT_KIND), trait(thing, PRICE), trait(thing, AGE));
            return awardOf(worth, worse(thing), trait(thing, CLAIM));
        }

        int awardOf(int worth, int worse, int claim) {
            int silent = home[SILENT];
            boolean unproved = home[FINAL] == 0 && silent != TENANT_SILENT;
            if (home[FIRST] == 0 || unproved || silent == OWNER_SILENT) {
                return 0;
            }
            int most = Math.min(claim, worth);
            return silent == TENANT_SILENT ? most : Math.min(most, worth * worse / 100);
        }

        boolean offersMeet() {
            return home[ASKS] > 0 && home[BIDS] >= home[ASKS];
        }

        int awarded() {
            int together = 0;
            for (int thing = 0; thing < things; thing++) {
                together += award(thing);
            }
            return awardedOf(together);
        }

        int awardedOf(int together) {
            int due = offersMeet() ? (home[ASKS] + home[BIDS]) / 2 : together;
            return Math.min(due, home[DEPOSIT]);
        }

        int sum(int what) {
            int together = 0;
            for (int thing = 0; thing < things; thing++) {
                together += told(thing, what);
            }
            return together;
        }

        int thingsWith(int what) {
            int set = 0;
            for (int thing = 0; thing < things; thing++) {
                if (told(thing, what) > 0) {
                    set |= 1 << thing;
                }
            }
            return set;
        }

        int heldSpots() {
            int held = 0;
            for (int spot = 0; spot < MOST_SPOTS; spot++) {
                if (spots[spot] != NOTHING) {
                    held++;
                }
            }
            return held;
        }

        int draw() {
            z = z * 1103515245 + 12345;
            return z >>> 8;
        }

        void passDays(int n) {
            for (int i = 0; i < n; i++) {
                passDay();
            }
        }

        void passDay() {
            int blow = list[day % PLACES];
            int struck = thingOfBlow(blow);
            if (struck < things) {
                lower(struck, hurt(struck, forceOfBlow(blow)));
            }
            boolean wears = day % 10 == 9;
            for (int thing = 0; thing < things; thing++) {
                put(thing, AGE, Math.min(MOST_AGE, trait(thing, AGE) + 1));
                put(thing, DAYS, Math.min(MOST_AGE, trait(thing, DAYS) + 1));
                if (wears) {
                    lower(thing, 1);
                }
            }
            day = Math.min(LAST_DAY, day + 1);
        }

        private void lower(int thing, int by) {
            put(thing, IS, Math.max(0, trait(thing, IS) - by));
        }
    }

    /** The bytes that were fed, and the reading of them token by token. */
    private static final class Tape {
        private static final int END = 0;
        private static final int WORD = 1;
        private static final int NUMBER = 2;
        private static final int SIGN = 3;
        private static final int WRONG = 4;

        private final byte[] bytes = new byte[MOST_BYTES];
        private int length = 0;
        /* The token that is looked at: its sort, its bytes from begin to before end, its number. */
        private int sort = END;
        private int begin = 0;
        private int end = 0;
        private int number = 0;
        private int taken = 0;

        void append(byte b) {
            if (length < MOST_BYTES) {
                bytes[length] = b;
                length++;
            }
        }

        /** How many items the estate was told, or -1 less the fault: where the token begins that was not taken. */
        int readItems(Estate estate) {
            end = 0;
            nextToken();
            for (int items = 1; items <= MOST_BYTES; items++) {
                if (!readItem(estate)) {
                    return -1 - begin;
                }
                if (sort == END) {
                    return items;
                }
                if (sort != SIGN) {
                    return -1 - begin;
                }
                nextToken();
            }
            return -1 - begin;
        }

        private boolean readItem(Estate estate) {
            for (int kind = 0; kind < KINDS; kind++) {
                if (wordIs(wordOfKind(kind))) {
                    return readThing(estate, kind);
                }
            }
            if (takeWord("home")) {
                return takeHome(estate, DEPOSIT) && takeHome(estate, PEOPLE);
            }
            if (takeWord("offer")) {
                return takeHome(estate, ASKS) && takeHome(estate, BIDS);
            }
            if (takeWord("silent")) {
                return takeHome(estate, SILENT);
            }
            return takeWord("blow") && readBlow(estate);
        }

        private boolean readThing(Estate estate, int kind) {
            if (estate.things >= MOST_THINGS) {
                return false;
            }
            nextToken();
            if (!takeNumber(0, TRAIT_MOST[PRICE])) {
                return false;
            }
            int thing = estate.add(kind, taken);
            for (int what = AGE; what < TRAITS; what++) {
                if (takeWord(wordOfTrait(what))) {
                    if (!takeNumber(0, TRAIT_MOST[what])) {
                        return false;
                    }
                    estate.put(thing, what, taken);
                }
            }
            return true;
        }

        private boolean takeHome(Estate estate, int what) {
            if (!takeNumber(HOME_LEAST[what], HOME_MOST[what])) {
                return false;
            }
            estate.home[what] = taken;
            return true;
        }

        private boolean readBlow(Estate estate) {
            if (!takeNumber(0, PLACES - 1)) {
                return false;
            }
            int place = taken;
            if (!takeNumber(0, MOST_THINGS - 1)) {
                return false;
            }
            int thing = taken;
            if (!takeNumber(0, FORCES - 1)) {
                return false;
            }
            estate.list[place] = blowOf(thing, taken);
            return true;
        }

        private boolean takeNumber(int least, int most) {
            if (sort != NUMBER || !within(number, least, most)) {
                return false;
            }
            taken = number;
            nextToken();
            return true;
        }

        private boolean takeWord(String word) {
            if (!wordIs(word)) {
                return false;
            }
            nextToken();
            return true;
        }

        private static String wordOfKind(int kind) {
            switch (kind) {
                case CARPET: return "carpet";
                case WALL: return "wall";
                case PAINT: return "paint";
                case MURAL: return "mural";
                case LAMP: return "lamp";
                case RUG: return "rug";
                default: return "thing";
            }
        }

        /** Empty for what a text can't tell: no token is empty. */
        private static String wordOfTrait(int what) {
            switch (what) {
                case AGE: return "aged";
                case IS: return "is";
                case CLAIM: return "claim";
                default: return "";
            }
        }

        private boolean wordIs(String word) {
            if (sort != WORD || end - begin != word.length()) {
                return false;
            }
            for (int i = 0; i < word.length(); i++) {
                if (bytes[begin + i] != word.charAt(i)) {
                    return false;
                }
            }
            return true;
        }

        private void nextToken() {
            begin = end;
            while (begin < length && bytes[begin] == ' ') {
                begin++;
            }
            end = begin;
            sort = begin < length ? sortOf(bytes[begin]) : END;
            number = 0;
            if (sort == SIGN) {
                end++;
            }
            while (end < length && (sort == WORD || sort == NUMBER) && sortOf(bytes[end]) == sort) {
                if (sort == NUMBER) {
                    // One more than the greatest stands for all above it, so that no row of digits wraps around.
                    number = Math.min(MOST_NUMBER + 1, 10 * number + (bytes[end] - '0'));
                }
                end++;
            }
        }

        private static int sortOf(byte b) {
            if (b >= 'a' && b <= 'z') {
                return WORD;
            }
            if (b >= '0' && b <= '9') {
                return NUMBER;
            }
            return b == ';' ? SIGN : WRONG;
        }
    }

    /** A row of numbers of as many bits; of 0 bits it is missing. */
    private static final class Sheet {
        private final int[] numbers = new int[MOST_NUMBERS];
        private int bits = 0;
        private int size = 0;

        void begin(int newBits, int newSize) {
            bits = newBits;
            size = newSize;
            Arrays.fill(numbers, 0);
        }

        void put(int i, int v) {
            int above = 32 - bits;
            numbers[i] = v << above >> above;
        }

        boolean hasRow(int from, int n) {
            return within(n, 0, size) && within(from, 0, size - n);
        }
    }
}
