import java.util.Arrays;
import java.util.function.Consumer;
import java.util.function.Supplier;
import java.util.function.ToLongFunction;

// Refused calls: each number of each call at the last value that is allowed and at the first that isn't, and far beyond. Of two homes
// alike one is asked and the other isn't; a refused call answers its finding, counts in status(), and the two are alike in all else.
public final class RefusalsTest {
    private static final int BEYOND = Given.BEYOND, FULL = Given.FULL, KIND = Given.KIND, NONE = Given.NONE, STATE = Given.STATE,
        MISSING = Given.MISSING, SIZE = Given.SIZE;
    private static final int MIN = Integer.MIN_VALUE, MAX = Integer.MAX_VALUE;
    private static final String FINDINGS = "one that answers a finding changes nothing but status().";

    private static final Sentences doc = new Sentences();

    // Three THINGS (KINDS that DAYS, PEOPLE and BLOWS tell apart), a BLOW in each place, an image of an earlier state, SPOTS, sheets of
    // each number of bits (3 is MISSING), a TEXT on THE TAPE.
    private static JudgedDeposits home() {
        JudgedDeposits x = Given.told("carpet 400 aged 30 is 80 claim 120;wall 200 is 60 claim 90;home 900 3", "blow 0 1 2;blow 2 0 1;blow 3 2 4;offer 80 70");
        x.hold(2, 1);
        x.seed(4711);
        x.image();
        Given.text(x, "lamp 150 aged 10 claim 999;blow 5 1 3;blow 1 7 8;blow 4 0 0");
        x.change(1, 3, 95);
        x.change(1, 5, 120);
        x.hold(0, 2);
        x.hold(9, 0);
        x.go(17);
        Given.row(x, 0, 8, 1, 127);
        Given.row(x, 1, 16, 10, 20, 30, 40, 999);
        Given.row(x, 2, 32, -1, 100, 7, -1, -1, 0);
        Given.feed(x, "rug 5;silent 1");
        return x;
    }

    private static void findings(JudgedDeposits x, int[] row) {
        for (int f = 0; f < 7; f++) row[f] = x.status(f);
    }

    // All that answers can show of a home; what it was before is gone then.
    private static String probe(JudgedDeposits x) {
        StringBuilder b = new StringBuilder();
        state(x, b);
        for (int s = 0; s < 4; s++) sheet(x, s, b);
        b.append(" text ").append(x.text());
        state(x, b);
        b.append(" undo ").append(x.undo());
        state(x, b);
        b.append(" month ").append(x.month(7));
        state(x, b);
        return b.toString();
    }

    private static void state(JudgedDeposits x, StringBuilder b) {
        b.append(" home");
        for (int what = 0; what < 7; what++) b.append(' ').append(x.home(what));
        for (int i = 0; i < 6; i++) b.append(' ').append(x.listed(i));
        b.append(" count");
        for (int what = 0; what < 8; what++) b.append(' ').append(x.count(what));
        for (int t = 0; t < x.count(1); t++) {
            b.append(" thing");
            for (int what = 0; what < 7; what++) b.append(' ').append(x.of(t, what));
        }
        b.append(" spots");
        for (int spot = 0; spot < 10; spot++) b.append(' ').append(x.as(spot, 0));
    }

    // Of 65836 a sheet of 8 bits keeps 44, one of 16 keeps 300, one of 32 all: no CLAIM.
    private static void sheet(JudgedDeposits x, int s, StringBuilder b) {
        b.append(" sheet ").append(x.judge(s));
        for (int i = 0; i < 8; i++) {
            b.append(' ').append(x.copy(s, i, s, 0, 1)).append(' ').append(x.load(s));
            if (x.count(1) > 0) b.append(' ').append(x.of(0, 6)).append(' ').append(x.fits(s, 0) == 600);
        }
        b.append(' ').append(x.write(s, 0, 65836)).append(' ').append(x.load(s));
        if (x.count(1) > 0) b.append(' ').append(x.of(0, 6));
        for (int i : new int[] {0, 1, 2, 5, 6, 39, 40}) b.append(' ').append(x.write(s, i, 0));
    }

    private static void refused(String call, Supplier<JudgedDeposits> given, ToLongFunction<JudgedDeposits> act, int finding) {
        JudgedDeposits asked = given.get();
        JudgedDeposits left = given.get();
        int[] want = new int[7];
        int[] got = new int[7];
        findings(asked, want);
        want[-1000001 - finding]++;
        doc.due(call, act.applyAsLong(asked), finding);
        findings(asked, got);
        doc.so(call + " counts in status(): " + Arrays.toString(got) + ", due is " + Arrays.toString(want), Arrays.equals(got, want));
        doc.due("status(-1) behind " + call, asked.status(-1), Arrays.stream(want).sum());
        alike(call, asked, left);
    }

    private static void alike(String call, JudgedDeposits asked, JudgedDeposits left) {
        String a = probe(asked);
        String b = probe(left);
        doc.so(call + " changes nothing, but " + b + " became " + a, a.equals(b));
    }

    // ---- each number of each call

    private interface Call {
        long of(JudgedDeposits x, int[] a);
    }

    // Bounds: for each number its least, its most and one that is allowed between.
    private static void bounds(String name, Call call, int[]... numbers) {
        int[] good = new int[numbers.length];
        for (int i = 0; i < good.length; i++) good[i] = numbers[i][2];
        for (int i = 0; i < good.length; i++) {
            int least = numbers[i][0];
            int most = numbers[i][1];
            for (int v : new int[] {least, most}) {
                int[] a = good.clone();
                a[i] = v;
                long answer = call.of(home(), a);
                doc.so(name + Arrays.toString(a) + " answered " + answer + ", no BEYOND is due", answer != BEYOND);
            }
            for (long v : new long[] {least - 1L, most + 1L, MIN, MAX}) {
                if (v < MIN || v > MAX || v >= least && v <= most) continue;
                int[] a = good.clone();
                a[i] = (int) v;
                refused(name + Arrays.toString(a), RefusalsTest::home, x -> call.of(x, a), BEYOND);
            }
        }
    }

    private static int[] n(int least, int most, int between) {
        return new int[] {least, most, between};
    }

    private static final int[] THINGS = n(0, 2, 1);
    private static final int[] PLACES = n(0, 5, 3);
    private static final int[] SHEETS = n(0, 3, 2);

    private static void numbersOfHome() {
        doc.of("Terms, FINDINGS", FINDINGS);
        bounds("set", (x, a) -> x.set(a[0], a[1]), n(0, 6, 0), n(0, 9999, 5));
        int[] least = {0, 1, 0, 0, 0, 0, 0};
        int[] most = {9999, 9, 1, 1, 2, 9999, 9999};
        for (int what = 0; what < 7; what++) {
            int w = what;
            bounds("set of " + what, (x, a) -> x.set(w, a[0]), n(least[what], most[what], 1));
        }
        bounds("home", (x, a) -> x.home(a[0]), n(0, 6, 0));
        bounds("blow", (x, a) -> x.blow(a[0], a[1], a[2]), PLACES, n(0, 7, 6), n(0, 9, 5));
        bounds("listed", (x, a) -> x.listed(a[0]), PLACES);
        bounds("thing", (x, a) -> x.thing(a[0], a[1]), n(0, 6, 3), n(0, 999, 77));
        bounds("of", (x, a) -> x.of(a[0], a[1]), THINGS, n(0, 11, 8));
        int[] mostOf = {6, 999, 9999, 99, 99, 9999, 999};
        bounds("change", (x, a) -> x.change(a[0], a[1], a[2]), THINGS, n(0, 6, 1), n(0, 999, 5));
        for (int what = 0; what < 7; what++) {
            int w = what;
            bounds("change of " + what, (x, a) -> x.change(1, w, a[0]), n(0, mostOf[what], 1));
        }
        bounds("hurts", (x, a) -> x.hurts(a[0], a[1]), THINGS, n(0, 9, 5));
        bounds("go", (x, a) -> x.go(a[0]), n(1, 60, 3));
        bounds("now", (x, a) -> x.now(a[0]), n(0, 7, 1));
    }

    private static void numbersOfQuestions() {
        doc.of("Terms, FINDINGS", FINDINGS);
        bounds("ahead", (x, a) -> x.ahead(a[0], a[1], a[2]), THINGS, n(8, 11, 9), n(0, 100, 7));
        for (int what : new int[] {0, 3, 5, 7}) refused("ahead(0, " + what + ", 1)", RefusalsTest::home, x -> x.ahead(0, what, 1), BEYOND);
        bounds("judged", (x, a) -> x.judged(a[0]), n(0, 100, 7));
        bounds("worthless", (x, a) -> x.worthless(a[0], a[1]), THINGS, n(0, 999, 100));
        bounds("owing", (x, a) -> x.owing(a[0], a[1]), THINGS, n(0, 999, 100));
        bounds("claimFor", (x, a) -> x.claimFor(a[0], a[1]), THINGS, n(0, 60, 7));
        bounds("peopleFor", (x, a) -> x.peopleFor(a[0]), n(0, 60, 7));
        bounds("kindFor", (x, a) -> x.kindFor(a[0], a[1]), THINGS, n(0, 60, 7));
        bounds("forceFor", (x, a) -> x.forceFor(a[0], a[1], a[2]), PLACES, n(0, 9999, 7), n(0, 60, 7));
        bounds("giveUp", (x, a) -> x.giveUp(a[0], a[1]), n(0, 9999, 800), n(0, 20, 7));
        bounds("fits", (x, a) -> x.fits(a[0], a[1]), SHEETS, THINGS);
        bounds("kinds", (x, a) -> x.kinds(a[0], a[1]), SHEETS, THINGS);
        bounds("month", (x, a) -> x.month(a[0]), n(1, 20, 3));
        bounds("odds", (x, a) -> x.odds(a[0], a[1], a[2], a[3]), THINGS, n(0, 99, 7), n(0, 18, 7), n(0, 1, 0));
    }

    private static void numbersOfRows() {
        doc.of("Terms, FINDINGS", FINDINGS);
        bounds("feed", (x, a) -> x.feed(a[0], a[1]), n(MIN, MAX, 65), n(1, 4, 2));
        bounds("hold", (x, a) -> x.hold(a[0], a[1]), n(0, 9, 4), n(-1, 2, 1));
        bounds("as", (x, a) -> x.as(a[0], a[1]), n(0, 9, 0), n(0, 6, 0));
        bounds("sheet", (x, a) -> x.sheet(a[0], a[1], 9), SHEETS, n(8, 8, 8));
        bounds("sheet", (x, a) -> x.sheet(a[0], a[1], 9), SHEETS, n(16, 16, 16));
        bounds("sheet", (x, a) -> x.sheet(a[0], a[1], 9), SHEETS, n(32, 32, 32));
        bounds("sheet", (x, a) -> x.sheet(a[0], a[1], 9), SHEETS, n(0, 0, 0));
        for (int bits : new int[] {0, 8, 16, 32}) {
            for (int n : new int[] {41, MAX}) refused("sheet(1, " + bits + ", " + n + ")", RefusalsTest::home, x -> x.sheet(1, bits, n), BEYOND);
            for (int n : new int[] {-1, MIN}) refused("sheet(1, " + bits + ", " + n + ")", RefusalsTest::home, x -> x.sheet(1, bits, n), SIZE);
        }
        bounds("write", (x, a) -> x.write(2, a[0], a[1]), n(0, 5, 4), n(MIN, MAX, 5));
        bounds("write", (x, a) -> x.write(a[0], 0, 5), SHEETS);
        bounds("copy", (x, a) -> x.copy(a[0], 0, a[1], 0, 1), SHEETS, SHEETS);
        bounds("copy", (x, a) -> x.copy(1, a[0], 1, a[1], a[2]), n(0, 3, 1), n(0, 3, 2), n(0, 3, 2));
        bounds("load", (x, a) -> x.load(a[0]), SHEETS);
        bounds("judge", (x, a) -> x.judge(a[0]), SHEETS);
        bounds("count", (x, a) -> x.count(a[0]), n(0, 7, 5));
        bounds("status", (x, a) -> x.status(a[0]), n(-1, 6, 0));
    }

    // ---- findings of a state

    private static Supplier<JudgedDeposits> with(Consumer<JudgedDeposits> more) {
        return () -> {
            JudgedDeposits x = home();
            more.accept(x);
            return x;
        };
    }

    private static void findingsOfStates() {
        doc.of("Terms, FINDINGS", FINDINGS);
        refused("a ninth THING", with(Given::full), x -> x.thing(6, 9), FULL);
        for (int n = 1; n <= 4; n++) {
            int more = n;
            Supplier<JudgedDeposits> nearlyFull = with(x -> {
                while (x.count(5) + more <= 120) x.feed(0x3b, 1);
            });
            refused("feed() of " + n + " to " + nearlyFull.get().count(5), nearlyFull, x -> x.feed(0x20202020, more), FULL);
        }
        refused("worthless(1, 199)", RefusalsTest::home, x -> x.worthless(1, 199), NONE);
        refused("owing(1, 91)", RefusalsTest::home, x -> x.owing(1, 91), NONE);
        refused("forgiven()", RefusalsTest::home, x -> x.forgiven(), NONE);
        refused("forceFor(0, 901, 60)", RefusalsTest::home, x -> x.forceFor(0, 901, 60), NONE);
        refused("giveUp(901, 20)", RefusalsTest::home, x -> x.giveUp(901, 20), NONE);
        refused("undo() of nothing", with(x -> x.tear()), x -> x.undo(), NONE);
        refused("as() of nothing", RefusalsTest::home, x -> x.as(5, 0), MISSING);
        refused("as() of another kind", RefusalsTest::home, x -> x.as(2, 1), KIND);
        refused("as() of a kind under it", RefusalsTest::home, x -> x.as(2, 3), KIND);
        refused("write() to no sheet", RefusalsTest::home, x -> x.write(3, 0, 0), MISSING);
        refused("copy() from no sheet", RefusalsTest::home, x -> x.copy(3, 0, 0, 0, 1), MISSING);
        refused("copy() to no sheet", RefusalsTest::home, x -> x.copy(0, 0, 3, 0, 1), MISSING);
        refused("copy() of 8 bits to 16", RefusalsTest::home, x -> x.copy(0, 0, 1, 0, 1), KIND);
        refused("copy() of 32 bits to 16", RefusalsTest::home, x -> x.copy(2, 0, 1, 0, 1), KIND);
        refused("copy() beyond the end", RefusalsTest::home, x -> x.copy(1, 3, 1, 0, 3), BEYOND);
        refused("copy() beyond the other's end", RefusalsTest::home, x -> x.copy(1, 0, 1, 3, 3), BEYOND);
        refused("load() of no sheet", RefusalsTest::home, x -> x.load(3), MISSING);
        refused("judge() of no sheet", RefusalsTest::home, x -> x.judge(3), MISSING);
        refused("fits() of no sheet", RefusalsTest::home, x -> x.fits(3, 9), MISSING);
        refused("kinds() of no sheet", RefusalsTest::home, x -> x.kinds(3, 9), MISSING);
        // More calls than the document speaks of: DAY comes so far in no other way.
        Supplier<JudgedDeposits> late = with(y -> {
            while (y.count(0) < 99940) y.go(Math.min(60, 99940 - y.count(0)));
        });
        refused("go(60) on DAY 99940", late, x -> x.go(60), STATE);
        JudgedDeposits x = late.get();
        doc.so("go(59) on DAY 99940 is no STATE", x.go(59) >= 0);
        doc.due("DAY behind go(59)", x.count(0), 99999);
        Supplier<JudgedDeposits> later = with(y -> {
            while (y.count(0) < 99980) y.go(Math.min(60, 99980 - y.count(0)));
        });
        refused("month(20) on DAY 99980", later, y -> y.month(20), STATE);
        x = later.get();
        doc.so("month(19) on DAY 99980 is no STATE", x.month(19) >= 0);
        doc.due("DAY behind month(19)", x.count(0), 99999);
    }

    // ---- no THING, and as many as may be

    private static final String[] OF_THINGS = {"of", "change", "hurts", "ahead", "worthless", "owing", "claimFor", "kindFor", "fits", "kinds", "odds",
        "hold"};

    private static long ofThing(JudgedDeposits x, String call, int thing) {
        switch (call) {
            case "of": return x.of(thing, 11);
            case "change": return x.change(thing, 6, 9);
            case "hurts": return x.hurts(thing, 9);
            case "ahead": return x.ahead(thing, 11, 100);
            case "worthless": return x.worthless(thing, 999);
            case "owing": return x.owing(thing, 0);
            case "claimFor": return x.claimFor(thing, 60);
            case "kindFor": return x.kindFor(thing, 60);
            case "fits": return x.fits(2, thing);
            case "kinds": return x.kinds(2, thing);
            case "odds": return x.odds(thing, 99, 18, 1);
            default: return x.hold(5, thing);
        }
    }

    private static void emptyAndFull() {
        doc.of("Terms, THINGS", "THINGS 0, 1, .. (at most 8)");
        Supplier<JudgedDeposits> empty = () -> {
            JudgedDeposits x = new JudgedDeposits();
            Given.row(x, 2, 32, -1);
            Given.feed(x, "rug 5");
            return x;
        };
        Supplier<JudgedDeposits> full = with(Given::full);
        for (String call : OF_THINGS) {
            for (int thing : new int[] {0, 7}) refused(call + " of " + thing + " of none", empty, x -> ofThing(x, call, thing), BEYOND);
            refused(call + " of 8 of eight", full, x -> ofThing(x, call, 8), BEYOND);
            for (int thing = 0; thing < 8; thing++) {
                long answer = ofThing(full.get(), call, thing);
                doc.so(call + " of " + thing + " of eight answered " + answer, answer >= 0);
            }
        }
        JudgedDeposits x = empty.get();
        doc.due("go(60) of none", x.go(60), 0);
        doc.due("month(20) of none", x.month(20), 0);
        doc.due("judged(100) of none", x.judged(100), 0);
        doc.due("forgiven() of none", x.forgiven(), 0);
        doc.due("peopleFor(60) of none", x.peopleFor(60), 1);
        doc.due("forceFor(0, 0, 60) of none", x.forceFor(0, 0, 60), 0);
        doc.due("forceFor(0, 1, 60) of none", x.forceFor(0, 1, 60), NONE);
        doc.due("giveUp(1000, 20) of none", x.giveUp(1000, 20), 0);
        doc.due("giveUp(1001, 20) of none", x.giveUp(1001, 20), NONE);
        doc.due("load(2) of none", x.load(2), 0);
        doc.due("judge(2) of none", x.judge(2), 1);
        for (int what = 0; what < 8; what++) doc.due("now(" + what + ") of none", x.now(what), what == 0 ? 80 : what == 2 ? 1000 : 0);
    }

    // ---- what changes nothing, or nothing else

    private static void asked(String call, ToLongFunction<JudgedDeposits> act) {
        JudgedDeposits x = home();
        JudgedDeposits left = home();
        long answer = act.applyAsLong(x);
        doc.so(call + " answered the finding " + answer, answer > -1000001);
        doc.due("status(-1) behind " + call, x.status(-1), left.status(-1));
        alike(call, x, left);
    }

    private static void questions() {
        doc.of("Promise 12", "What 4, 8, 9, 10, 11 (as in of()) of a THING behind n (0 to 100) DAYS.");
        for (int what : new int[] {4, 8, 9, 10, 11}) asked("ahead(2, " + what + ", 100)", x -> x.ahead(2, what, 100));
        doc.of("Promise 13", "What is AWARDED behind n (0 to 100) DAYS.");
        asked("judged(100)", x -> x.judged(100));
        doc.of("Promise 14", "Behind how many DAYS (0 to 200, the fewest) a THING is WORTH v (0 to 999) or less.");
        asked("worthless(0, 200)", x -> x.worthless(0, 200));
        doc.of("Promise 15", "Behind how many DAYS (0 to 200, the fewest) AWARD for a THING is v (0 to 999) or more.");
        asked("owing(1, 80)", x -> x.owing(1, 80));
        doc.of("Promise 16", "Behind how many DAYS (0 to 200, the fewest) nothing is AWARDED.");
        JudgedDeposits x = home();
        JudgedDeposits left = home();
        x.set(4, 2);
        doc.due("forgiven() with a silent owner", x.forgiven(), 0);
        left.set(4, 2);
        alike("forgiven()", x, left);
        doc.of("Promise 17", "The least CLAIM for a THING with which AWARD for it is most behind n (0 to 60) DAYS.");
        asked("claimFor(0, 60)", y -> y.claimFor(0, 60));
        doc.of("Promise 18", "The number of PEOPLE with which least is AWARDED behind n (0 to 60) DAYS.");
        asked("peopleFor(60)", y -> y.peopleFor(60));
        doc.of("Promise 19", "The KIND of which a THING must be for that.");
        asked("kindFor(0, 60)", y -> y.kindFor(0, 60));
        doc.of("Promise 20", "The least FORCE of the BLOW in place i of THE LIST (its THING as it is) with which v (0 to 9999) or more is AWARDED behind n (0 to "
            + "60) DAYS.");
        asked("forceFor(5, 100, 60)", y -> y.forceFor(5, 100, 60));
        doc.of("Promise 21", "The set of fewest THINGS such that, if the CLAIMS for these are given up now (0), v (0 to 9999) or more is LEFT behind n (0 to 20) "
            + "DAYS; of several the least.");
        asked("giveUp(900, 20)", y -> y.giveUp(900, 20));
        doc.of("Promise 22", "How many AGES (0 to 599) a THING could have now,");
        asked("fits(1, 0)", y -> y.fits(1, 0));
        doc.of("Promise 23", "KINDS that it could be of, as a set, likewise.");
        asked("kinds(2, 0)", y -> y.kinds(2, 0));
        doc.of("Promise 25", "The odds that n (0 to 18) FORCES, each the rest by 10 of a draw,");
        asked("odds(0, 20, 18, 1)", y -> y.odds(0, 20, 18, 1));
        doc.of("Promise 36", "THE READER: numbers of a sheet are AWARDS for THINGS 0, 1, ..");
        asked("judge(1)", y -> y.judge(1));
    }

    private static void faultsOfTexts() {
        doc.of("Promise 29", "With a FAULT: -1 less the FAULT (nothing changes but that THE TAPE is empty; no finding).");
        String[] texts = {"home 1 1;offer 1 1;silent 2;blow 0 7 7;rug 1;x", "rug1;rug1;rug1;rug1;rug1;rug1", "wall 5 claim 1000", ";", " "};
        int[] faults = {45, 25, 13, 0, 1};
        for (int i = 0; i < texts.length; i++) {
            JudgedDeposits x = home();
            JudgedDeposits left = home();
            x.wipe();
            left.wipe();
            doc.due('"' + texts[i] + '"', Given.text(x, texts[i]), -1 - faults[i]);
            doc.due("status(-1) behind \"" + texts[i] + '"', x.status(-1), left.status(-1));
            alike('"' + texts[i] + '"', x, left);
        }
    }

    public static void main(String[] args) {
        numbersOfHome();
        numbersOfQuestions();
        numbersOfRows();
        findingsOfStates();
        emptyAndFull();
        questions();
        faultsOfTexts();
        doc.end();
    }
}
