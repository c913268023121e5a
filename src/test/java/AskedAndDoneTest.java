import java.util.Random;
import java.util.function.ToIntFunction;

// What a question says will be, is done on a home alike: the answers of one part of the class against those of another,
// without a second program of the document. Homes are told anew for each trial, so that no object is used too often.
public final class AskedAndDoneTest {
    private static final int NONE = Given.NONE;
    private static final int HOMES = 60;
    private static final int AGE = 2, IS = 4, CLAIM = 6, WORTH = 8, WORSE = 10, AWARD = 11;
    private static final String[] WORDS = {"thing", "carpet", "wall", "paint", "mural", "lamp", "rug"};
    private static int asked = 0;
    private static int wrong = 0;

    private static void due(int seed, String call, long got, long want) {
        asked++;
        if (got != want) {
            wrong++;
            System.out.println("home " + seed + ": " + call + " answered " + got + ", what is done says " + want);
        }
    }

    // ---- homes alike

    private static JudgedDeposits home(int seed) {
        Random r = new Random(seed);
        JudgedDeposits x = new JudgedDeposits();
        x.set(0, r.nextInt(4) == 0 ? r.nextInt(100) : r.nextInt(3000));
        x.set(1, 1 + r.nextInt(9));
        if (r.nextInt(8) == 0) x.set(2, 0);
        if (r.nextInt(6) == 0) x.set(3, 0);
        if (r.nextInt(4) == 0) x.set(4, r.nextInt(3));
        if (r.nextInt(5) == 0) x.set(5, r.nextInt(300));
        if (r.nextInt(5) == 0) x.set(6, r.nextInt(300));
        int things = r.nextInt(9);
        for (int i = 0; i < things; i++) {
            x.thing(r.nextInt(7), r.nextInt(1000));
            if (r.nextInt(3) > 0) x.change(i, AGE, r.nextInt(450));
            if (r.nextInt(3) == 0) x.change(i, 3, 60 + r.nextInt(40));
            if (r.nextInt(3) > 0) x.change(i, IS, r.nextInt(100));
            if (r.nextInt(3) == 0) x.change(i, 5, r.nextInt(300));
            if (r.nextInt(4) > 0) x.change(i, CLAIM, r.nextInt(1000));
        }
        for (int i = 0; i < 6; i++) if (r.nextInt(3) > 0) x.blow(i, r.nextInt(8), r.nextInt(10));
        x.seed(r.nextInt());
        for (int i = 0; i < things; i++) x.hold(r.nextInt(10), i);
        x.go(1 + r.nextInt(20));
        return x;
    }

    // All that answers tell of an object, but for status().
    private static String told(JudgedDeposits x) {
        StringBuilder all = new StringBuilder();
        for (int what = 0; what < 7; what++) all.append(x.home(what)).append(' ');
        for (int i = 0; i < 6; i++) all.append(x.listed(i)).append(' ');
        for (int what = 0; what < 8; what++) all.append(x.now(what)).append(' ').append(x.count(what)).append(' ');
        int things = x.count(1);
        for (int t = 0; t < things; t++) for (int what = 0; what <= AWARD; what++) all.append(x.of(t, what)).append(' ');
        for (int spot = 0; spot < 10; spot++) all.append(x.as(spot, 0)).append(' ');
        return all.toString();
    }

    private static void days(JudgedDeposits x, int n) {
        for (int left = n; left > 0; left -= 60) x.go(Math.min(left, 60));
    }

    private static int awardedBehind(JudgedDeposits x, int n) {
        days(x, n);
        return x.now(1);
    }

    private static int fewest(int seed, ToIntFunction<JudgedDeposits> so) {
        JudgedDeposits x = home(seed);
        for (int n = 0; n <= 200; n++) {
            if (so.applyAsInt(x) == 1) return n;
            x.go(1);
        }
        return NONE;
    }

    // ---- promises 9 to 16

    private static void whatWillBe(int seed, Random r) {
        int things = home(seed).count(1);
        for (int n : new int[] {0, 1, r.nextInt(100), 100}) {
            due(seed, "judged(" + n + ")", home(seed).judged(n), awardedBehind(home(seed), n));
            JudgedDeposits then = home(seed);
            days(then, n);
            JudgedDeposits asks = home(seed);
            for (int t = 0; t < things; t++) {
                for (int what : new int[] {IS, WORTH, 9, WORSE, AWARD}) {
                    due(seed, "ahead(" + t + ", " + what + ", " + n + ")", asks.ahead(t, what, n), then.of(t, what));
                }
            }
        }
        due(seed, "forgiven()", home(seed).forgiven(), fewest(seed, x -> x.now(1) == 0 ? 1 : 0));
        for (int t = 0; t < things; t++) {
            int thing = t;
            int v = r.nextInt(500);
            due(seed, "worthless(" + t + ", " + v + ")", home(seed).worthless(t, v), fewest(seed, x -> x.of(thing, WORTH) <= v ? 1 : 0));
            int w = r.nextInt(200);
            due(seed, "owing(" + t + ", " + w + ")", home(seed).owing(t, w), fewest(seed, x -> x.of(thing, AWARD) >= w ? 1 : 0));
        }
    }

    private static void hurtsByABlow(int seed) {
        JudgedDeposits asks = home(seed);
        for (int t = 0; t < asks.count(1); t++) {
            for (int force = 0; force < 10; force++) {
                JudgedDeposits x = home(seed);
                if (x.now(0) % 10 == 9) x.go(1);
                x.blow(x.now(0) % 6, t, force);
                int is = x.of(t, IS);
                x.go(1);
                due(seed, "hurts(" + t + ", " + force + "), IS then", Math.max(0, is - asks.hurts(t, force)), x.of(t, IS));
            }
        }
    }

    private static void allTogether(int seed) {
        JudgedDeposits x = home(seed);
        int awards = 0, claims = 0, worths = 0, worse = 0, awarded = 0;
        for (int t = 0; t < x.count(1); t++) {
            awards += x.of(t, AWARD);
            claims += x.of(t, CLAIM);
            worths += x.of(t, WORTH);
            if (x.of(t, WORSE) > 0) worse |= 1 << t;
            if (x.of(t, AWARD) > 0) awarded |= 1 << t;
        }
        boolean meet = x.home(5) > 0 && x.home(6) >= x.home(5);
        int due = Math.min(x.home(0), meet ? (x.home(5) + x.home(6)) / 2 : awards);
        int[] now = {x.count(0), due, x.home(0) - due, claims, worse, awarded, worths, meet ? 1 : 0};
        for (int what = 0; what < 8; what++) due(seed, "now(" + what + ")", x.now(what), now[what]);
        due(seed, "count(3)", x.count(3), due);
        due(seed, "count(4)", x.count(4), claims);
    }

    // ---- promises 17 to 21

    private static void whichClaim(int seed, Random r) {
        JudgedDeposits asks = home(seed);
        int things = asks.count(1);
        if (things == 0) return;
        int thing = r.nextInt(things);
        int n = r.nextInt(61);
        int best = 0, most = -1;
        for (int claim = 0; claim <= 999; claim++) {
            JudgedDeposits x = home(seed);
            x.change(thing, CLAIM, claim);
            days(x, n);
            if (x.of(thing, AWARD) > most) {
                most = x.of(thing, AWARD);
                best = claim;
            }
        }
        due(seed, "claimFor(" + thing + ", " + n + ")", asks.claimFor(thing, n), best);
    }

    private static void withWhichLeast(int seed, Random r) {
        int n = r.nextInt(61);
        int best = 0, least = Integer.MAX_VALUE;
        for (int people = 1; people <= 9; people++) {
            JudgedDeposits x = home(seed);
            x.set(1, people);
            int awarded = awardedBehind(x, n);
            if (awarded < least) {
                least = awarded;
                best = people;
            }
        }
        due(seed, "peopleFor(" + n + ")", home(seed).peopleFor(n), best);
        for (int t = 0; t < home(seed).count(1); t++) {
            least = Integer.MAX_VALUE;
            for (int kind = 0; kind < 7; kind++) {
                JudgedDeposits x = home(seed);
                x.change(t, 0, kind);
                int awarded = awardedBehind(x, n);
                if (awarded < least) {
                    least = awarded;
                    best = kind;
                }
            }
            due(seed, "kindFor(" + t + ", " + n + ")", home(seed).kindFor(t, n), best);
        }
    }

    private static void whichForce(int seed, Random r) {
        for (int i = 0; i < 6; i++) {
            int n = r.nextInt(61);
            JudgedDeposits asks = home(seed);
            int v = Math.min(9999, Math.max(0, asks.judged(n) - 40 + r.nextInt(120)));
            int best = NONE;
            for (int force = 9; force >= 0; force--) {
                JudgedDeposits x = home(seed);
                x.blow(i, x.listed(i) / 10, force);
                if (awardedBehind(x, n) >= v) best = force;
            }
            due(seed, "forceFor(" + i + ", " + v + ", " + n + ")", asks.forceFor(i, v, n), best);
        }
    }

    private static void whatToGiveUp(int seed, Random r) {
        int n = r.nextInt(21);
        JudgedDeposits asks = home(seed);
        int left = asks.home(0) - asks.judged(n);
        int v = Math.min(9999, left + r.nextInt(Math.max(1, asks.home(0) - left + 20)));
        int best = NONE, fewest = 9;
        for (int set = 0; set < 1 << asks.count(1); set++) {
            JudgedDeposits x = home(seed);
            for (int t = 0; t < x.count(1); t++) if ((set >> t & 1) == 1) x.change(t, CLAIM, 0);
            days(x, n);
            if (x.now(2) >= v && Integer.bitCount(set) < fewest) {
                fewest = Integer.bitCount(set);
                best = set;
            }
        }
        due(seed, "giveUp(" + v + ", " + n + ")", asks.giveUp(v, n), best);
    }

    // ---- promises 22 and 23

    // A sheet of the AWARDS that the home itself will see from some AGE or as some KIND on, with a few of them left open.
    private static int[] toldAwards(int seed, int thing, int what, int v, Random r) {
        int[] row = new int[r.nextInt(13)];
        JudgedDeposits x = home(seed);
        x.change(thing, what, v);
        for (int i = 0; i < row.length; i++) {
            row[i] = i >= 10 ? 7777 : r.nextInt(5) == 0 ? -1 : x.of(thing, AWARD);
            x.go(1);
        }
        return row;
    }

    private static boolean seesAwards(int seed, int thing, int what, int v, int[] row) {
        JudgedDeposits x = home(seed);
        x.change(thing, what, v);
        for (int i = 0; i < row.length && i < 10; i++) {
            if (row[i] != -1 && row[i] != x.of(thing, AWARD)) return false;
            x.go(1);
        }
        return true;
    }

    private static void byToldAwards(int seed, Random r) {
        JudgedDeposits asks = home(seed);
        int things = asks.count(1);
        if (things == 0) return;
        int thing = r.nextInt(things);
        int[] row = toldAwards(seed, thing, AGE, r.nextInt(600), r);
        Given.row(asks, 0, 16, row);
        int ages = 0;
        for (int age = 0; age <= 599; age++) if (seesAwards(seed, thing, AGE, age, row)) ages++;
        due(seed, "fits(0, " + thing + ")", asks.fits(0, thing), ages);
        row = toldAwards(seed, thing, 0, r.nextInt(7), r);
        Given.row(asks, 0, 32, row);
        int kinds = 0;
        for (int kind = 0; kind < 7; kind++) if (seesAwards(seed, thing, 0, kind, row)) kinds |= 1 << kind;
        due(seed, "kinds(0, " + thing + ")", asks.kinds(0, thing), kinds);
    }

    // ---- promises 24 and 25

    private static void monthByDays(int seed, Random r) {
        int n = 1 + r.nextInt(20);
        JudgedDeposits draws = home(seed);
        int awarded = draws.month(n);
        JudgedDeposits x = home(seed);
        int z = x.count(6);
        for (int i = 0; i < n; i++) {
            int first = z * 1103515245 + 12345;
            z = first * 1103515245 + 12345;
            x.blow(x.now(0) % 6, (first >>> 8) % 8, (z >>> 8) % 10);
            x.go(1);
        }
        x.seed(z);
        due(seed, "month(" + n + ")", awarded, x.now(1));
        due(seed, "month(" + n + "), all then", told(draws).equals(told(x)) ? 1 : 0, 1);
    }

    private static void oddsByCounting(int seed, Random r) {
        JudgedDeposits x = home(seed);
        for (int t = 0; t < x.count(1); t++) {
            int n = r.nextInt(4);
            int v = r.nextInt(60);
            int[] hurts = new int[10];
            for (int force = 0; force < 10; force++) hurts[force] = x.hurts(t, force);
            long good = 0, all = 0;
            for (int row = 0; row < (int) Math.pow(10, n); row++) {
                boolean fine = true;
                for (int k = 0, rest = row; k < n; k++, rest /= 10) fine &= hurts[rest % 10] <= v;
                if (fine) good++;
                all++;
            }
            long by = 1;
            for (long k = 2; k <= all; k++) if (good % k == 0 && all % k == 0) by = k;
            due(seed, "odds(" + t + ", " + v + ", " + n + ", 0)", x.odds(t, v, n, 0), good / by);
            due(seed, "odds(" + t + ", " + v + ", " + n + ", 1)", x.odds(t, v, n, 1), all / by);
        }
    }

    // ---- promises 29, 35 to 38, and that questions change nothing

    private static void textByCalls(int seed, Random r) {
        JudgedDeposits reads = home(seed);
        JudgedDeposits x = home(seed);
        StringBuilder text = new StringBuilder();
        int items = 1 + r.nextInt(3);
        for (int i = 0; i < items; i++) {
            text.append(i > 0 ? r.nextBoolean() ? " ; " : ";" : "");
            int which = r.nextInt(x.count(1) < 8 ? 8 : 4);
            int a = r.nextInt(10000), b = r.nextInt(8), c = r.nextInt(10);
            if (which == 0) {
                text.append("home ").append(a).append(' ').append(b + 1);
                x.set(0, a);
                x.set(1, b + 1);
            } else if (which == 1) {
                text.append("blow ").append(a % 6).append(' ').append(b).append(' ').append(c);
                x.blow(a % 6, b, c);
            } else if (which == 2) {
                text.append("offer").append(a).append(' ').append(9999 - a);
                x.set(5, a);
                x.set(6, 9999 - a);
            } else if (which == 3) {
                text.append("silent ").append(a % 3);
                x.set(4, a % 3);
            } else {
                int thing = x.thing(a % 7, a % 1000);
                text.append(WORDS[a % 7]).append(' ').append(a % 1000);
                if (r.nextBoolean()) x.change(thing, AGE, tell(text, " aged ", r.nextInt(10000)));
                if (r.nextBoolean()) x.change(thing, IS, tell(text, "is", r.nextInt(100)));
                if (r.nextBoolean()) x.change(thing, CLAIM, tell(text, "  claim", r.nextInt(1000)));
            }
        }
        due(seed, "text() of " + text, Given.text(reads, text.toString()), items);
        String before = told(reads);
        due(seed, "text() of " + text + ", all then", told(x).equals(before) ? 1 : 0, 1);
        due(seed, "text() with a FAULT", Given.text(reads, "home 1 1;blow 5 7 9;silent 3"), -28);
        due(seed, "text() with a FAULT, all then", told(reads).equals(before) ? 1 : 0, 1);
    }

    private static int tell(StringBuilder text, String word, int v) {
        text.append(word).append(v);
        return v;
    }

    private static void claimsBySheet(int seed, Random r) {
        JudgedDeposits x = home(seed);
        JudgedDeposits byHand = home(seed);
        int[] claims = new int[r.nextInt(11)];
        for (int i = 0; i < claims.length; i++) claims[i] = r.nextInt(6) == 0 ? -1 - r.nextInt(3) : r.nextInt(1100);
        Given.row(x, 1, 16, claims);
        int came = 0;
        while (came < claims.length && byHand.change(came, CLAIM, claims[came]) >= 0) came++;
        due(seed, "load(1)", x.load(1), came);
        due(seed, "load(1), all then", told(x).equals(told(byHand)) ? 1 : 0, 1);
        int[] awards = new int[r.nextInt(x.count(1) + 2)];
        int wrongFrom = r.nextInt(12);
        for (int i = 0; i < awards.length; i++) awards[i] = i < x.count(1) ? x.of(i, AWARD) + (i >= wrongFrom ? 1 : 0) : 0;
        Given.row(x, 2, 32, awards);
        int first = Math.min(wrongFrom, x.count(1));
        due(seed, "judge(2)", x.judge(2), first < awards.length ? 1 + first : 0);
    }

    private static void imageAndBack(int seed, Random r) {
        JudgedDeposits x = home(seed);
        x.image();
        String before = told(x);
        x.month(20);
        Given.text(x, "home 4321 9;offer 9 9;silent 2;wall 7");
        x.hold(r.nextInt(10), x.count(1) - 1);
        x.hold(r.nextInt(10), -1);
        x.go(60);
        due(seed, "something is otherwise", told(x).equals(before) ? 1 : 0, 0);
        due(seed, "undo()", x.undo(), home(seed).now(0));
        due(seed, "undo(), all then", told(x).equals(before) ? 1 : 0, 1);
    }

    private static void questionsChangeNothing(int seed) {
        JudgedDeposits x = home(seed);
        String before = told(x);
        Given.row(x, 3, 16, 5, -1, 7);
        for (int t = 0; t < x.count(1); t++) {
            x.ahead(t, WORTH, 100);
            x.worthless(t, 0);
            x.owing(t, 999);
            x.claimFor(t, 60);
            x.kindFor(t, 60);
            x.fits(3, t);
            x.kinds(3, t);
            x.odds(t, 9, 18, 0);
            x.hurts(t, 9);
        }
        x.judged(100);
        x.forgiven();
        x.peopleFor(60);
        for (int i = 0; i < 6; i++) x.forceFor(i, 9999, 60);
        x.giveUp(9999, 20);
        x.judge(3);
        due(seed, "questions changed nothing", told(x).equals(before) ? 1 : 0, 1);
    }

    public static void main(String[] args) {
        for (int seed = 1; seed <= HOMES; seed++) {
            Random r = new Random(-seed);
            whatWillBe(seed, r);
            hurtsByABlow(seed);
            allTogether(seed);
            whichClaim(seed, r);
            withWhichLeast(seed, r);
            whichForce(seed, r);
            whatToGiveUp(seed, r);
            byToldAwards(seed, r);
            monthByDays(seed, r);
            oddsByCounting(seed, r);
            textByCalls(seed, r);
            claimsBySheet(seed, r);
            imageAndBack(seed, r);
            questionsChangeNothing(seed);
        }
        System.out.println(asked + " answers asked and done, " + wrong + " not as due");
        if (wrong != 0) System.exit(1);
    }
}
