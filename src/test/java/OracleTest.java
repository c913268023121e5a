import java.math.BigInteger;
import java.util.ArrayList;
import java.util.Arrays;
import java.util.List;
import java.util.Random;
import java.util.function.IntPredicate;
import java.util.regex.Matcher;
import java.util.regex.Pattern;

// Long runs of drawn calls against a second program of the document, written for plainness: a class for each kind,
// a whole copy of the state for each question, every candidate tried.
public final class OracleTest {
    private static final int LOW = -1000001;

    static class Thing {
        int price, age, was = 99, is = 99, days, claim;

        int kind() { return 0; }
        int lives() { return 500; }
        int left() { return Math.max(0, lives() - age); }
        int worth() { return price * left() / lives(); }
        int fair(World w) { return days / 20; }
        int hurts(int f, World w) { return 5 * f; }

        static Thing of(int kind) {
            switch (kind) {
                case 0: return new Thing();
                case 1: return new Carpet();
                case 2: return new Wall();
                case 3: return new Paint();
                case 4: return new Mural();
                case 5: return new Lamp();
                default: return new Rug();
            }
        }

        Thing as(int kind) {
            Thing t = of(kind);
            t.price = price;
            t.age = age;
            t.was = was;
            t.is = is;
            t.days = days;
            t.claim = claim;
            return t;
        }
    }

    static class Carpet extends Thing {
        int kind() { return 1; }
        int lives() { return 400; }
        int worth() { return Math.min(price, Math.max(20, super.worth())); }
        int fair(World w) { return super.fair(w) + w.home[1]; }
        int hurts(int f, World w) { return super.hurts(f, w) + (f > 0 ? w.home[1] : 0); }
    }

    static class Rug extends Carpet {
        int kind() { return 6; }
        int lives() { return super.lives() / 2; }
        int fair(World w) { return 2 * super.fair(w); }
    }

    static class Wall extends Thing {
        int kind() { return 2; }
        int lives() { return 2 * super.lives(); }
        int worth() { return price; }
        int fair(World w) { return days / 50; }
        int hurts(int f, World w) { return f; }
    }

    static class Paint extends Wall {
        int kind() { return 3; }
        int lives() { return 200; }
        int worth() { return price / 2 * left() / lives(); }
        int fair(World w) { return super.fair(w) + 3; }
        int hurts(int f, World w) { return 2 * super.hurts(f, w); }
    }

    static class Mural extends Paint {
        int kind() { return 4; }
        int lives() { return super.lives() + price; }
        int worth() { return super.worth() + 50; }
        int fair(World w) { return 0; }
        int hurts(int f, World w) { return super.hurts(f, w) + (f > 0 ? 10 : 0); }
    }

    static class Lamp extends Thing {
        int kind() { return 5; }
        int lives() { return super.lives() - 200; }
        int fair(World w) { return days >= 100 ? 99 : super.fair(w); }
        int hurts(int f, World w) { return f >= 5 ? 99 : 0; }
    }

    static final class World {
        int[] home = {1000, 2, 1, 1, 0, 0, 0};
        int[] list = new int[6];
        int[] spots = new int[10];
        List<Thing> things = new ArrayList<>();
        int day, z = 1;

        World() { Arrays.fill(spots, -1); }

        World copy() {
            World w = new World();
            w.home = home.clone();
            w.list = list.clone();
            w.spots = spots.clone();
            for (Thing t : things) w.things.add(t.as(t.kind()));
            w.day = day;
            w.z = z;
            return w;
        }

        int worse(Thing t) { return Math.max(0, t.was - t.is - t.fair(this)); }

        int award(Thing t) {
            if (home[2] == 0) return 0;
            if (home[3] == 0 && home[4] != 1) return 0;
            if (home[4] == 2) return 0;
            if (home[4] == 1) return Math.min(t.claim, t.worth());
            return Math.min(Math.min(t.worth() * worse(t) / 100, t.claim), t.worth());
        }

        boolean meet() { return home[6] >= home[5] && home[5] > 0; }

        int awarded() {
            if (meet()) return Math.min((home[5] + home[6]) / 2, home[0]);
            int all = 0;
            for (Thing t : things) all += award(t);
            return Math.min(all, home[0]);
        }

        int left() { return home[0] - awarded(); }

        void dayGoesBy() {
            int b = list[day % 6];
            if (b / 10 < things.size()) {
                Thing t = things.get(b / 10);
                t.is = Math.max(0, t.is - t.hurts(b % 10, this));
            }
            for (Thing t : things) {
                t.age = Math.min(9999, t.age + 1);
                t.days = Math.min(9999, t.days + 1);
                if (day % 10 == 9) t.is = Math.max(0, t.is - 1);
            }
            day = Math.min(99999, day + 1);
        }

        World behind(int n) {
            World w = copy();
            for (int i = 0; i < n; i++) w.dayGoesBy();
            return w;
        }

        int draw() {
            z = (int) ((long) z * 1103515245L + 12345L);
            return z >>> 8;
        }

        int told(int thing, int what) {
            Thing t = things.get(thing);
            int[] all = {t.kind(), t.price, t.age, t.was, t.is, t.days, t.claim, t.lives(), t.worth(), t.fair(this), worse(t), award(t)};
            return all[what];
        }

        void put(int thing, int what, int v) {
            Thing t = things.get(thing);
            switch (what) {
                case 0: things.set(thing, t.as(v)); break;
                case 1: t.price = v; break;
                case 2: t.age = v; break;
                case 3: t.was = v; break;
                case 4: t.is = v; break;
                case 5: t.days = v; break;
                default: t.claim = v; break;
            }
        }
    }

    // Tells a world a text, or where its fault is.
    static final class Text {
        static final Pattern TOKEN = Pattern.compile(" *(?:([a-z]+)|([0-9]+)|(;)|(.)|$)", Pattern.DOTALL);
        static final List<String> KINDS = List.of("thing", "carpet", "wall", "paint", "mural", "lamp", "rug");

        static final class Fault extends RuntimeException {
            private static final long serialVersionUID = 1L;
            final int place;
            Fault(int place) { super(null, null, false, false); this.place = place; }
        }

        final World w;
        final List<String> tokens = new ArrayList<>();
        final List<Integer> places = new ArrayList<>();
        final int size;
        int at;

        Text(World w, String s) {
            this.w = w;
            size = s.length();
            Matcher m = TOKEN.matcher(s);
            while (m.find()) {
                for (int g = 1; g <= 4; g++) {
                    if (m.group(g) != null) {
                        tokens.add(m.group(g));
                        places.add(m.start(g));
                    }
                }
            }
        }

        String here() { return at < tokens.size() ? tokens.get(at) : ""; }
        Fault fault() { return new Fault(at < tokens.size() ? places.get(at) : size); }

        int number(int least, int most) {
            if (!here().matches("[0-9]+")) throw fault();
            BigInteger b = new BigInteger(here());
            if (b.compareTo(BigInteger.valueOf(least)) < 0 || b.compareTo(BigInteger.valueOf(most)) > 0) throw fault();
            at++;
            return b.intValue();
        }

        int perhaps(String word, int most, int otherwise) {
            if (!here().equals(word)) return otherwise;
            at++;
            return number(0, most);
        }

        void item() {
            String word = here();
            if (KINDS.contains(word)) {
                if (w.things.size() == 8) throw fault();
                at++;
                Thing t = Thing.of(KINDS.indexOf(word));
                t.price = number(0, 999);
                t.age = perhaps("aged", 9999, 0);
                t.is = perhaps("is", 99, 99);
                t.claim = perhaps("claim", 999, 0);
                w.things.add(t);
                return;
            }
            if (!List.of("home", "blow", "offer", "silent").contains(word)) throw fault();
            at++;
            if (word.equals("home")) {
                w.home[0] = number(0, 9999);
                w.home[1] = number(1, 9);
            } else if (word.equals("blow")) {
                int i = number(0, 5);
                int t = number(0, 7);
                w.list[i] = 10 * t + number(0, 9);
            } else if (word.equals("offer")) {
                w.home[5] = number(0, 9999);
                w.home[6] = number(0, 9999);
            } else {
                w.home[4] = number(0, 2);
            }
        }

        int items() {
            for (int n = 1; ; n++) {
                item();
                if (at == tokens.size()) return n;
                if (!here().equals(";")) throw fault();
                at++;
            }
        }
    }

    // ---- the second program

    private World w = new World();
    private World kept = null;
    private String tape = "";
    private final int[][] sheets = new int[4][];
    private final int[] bits = new int[4];
    private final int[] found = new int[7];

    private static final int[] LEAST = {0, 1, 0, 0, 0, 0, 0};
    private static final int[] MOST = {9999, 9, 1, 1, 2, 9999, 9999};
    private static final int[] MOST_OF = {6, 999, 9999, 99, 99, 9999, 999};

    private static boolean in(int v, int a, int b) { return a <= v && v <= b; }
    private boolean thing(int t) { return in(t, 0, w.things.size() - 1); }

    private static int fewest(int least, int most, IntPredicate p) {
        for (int i = least; i <= most; i++) if (p.test(i)) return i;
        return LOW - 3;
    }

    private int sheetFinding(int s) { return !in(s, 0, 3) ? LOW : sheets[s] == null ? LOW - 5 : 0; }

    private boolean tells(int s, World from, int thing) {
        for (int i = 0; i < Math.min(10, sheets[s].length); i++) {
            if (sheets[s][i] != -1 && sheets[s][i] != from.behind(i).told(thing, 11)) return false;
        }
        return true;
    }

    long answer(String call, int[] a) {
        long r = reckon(call, a);
        boolean z = call.equals("seed") || call.equals("count") && a[0] == 6;
        if (r <= LOW && !z) found[(int) (LOW - r)]++;
        return r;
    }

    private long reckon(String call, int[] a) {
        switch (call) {
            case "set": {
                if (!in(a[0], 0, 6) || !in(a[1], LEAST[a[0]], MOST[a[0]])) return LOW;
                int was = w.home[a[0]];
                w.home[a[0]] = a[1];
                return was;
            }
            case "home": return in(a[0], 0, 6) ? w.home[a[0]] : LOW;
            case "blow": {
                if (!in(a[0], 0, 5) || !in(a[1], 0, 7) || !in(a[2], 0, 9)) return LOW;
                int was = w.list[a[0]];
                w.list[a[0]] = 10 * a[1] + a[2];
                return was;
            }
            case "listed": return in(a[0], 0, 5) ? w.list[a[0]] : LOW;
            case "thing": {
                if (!in(a[0], 0, 6) || !in(a[1], 0, 999)) return LOW;
                if (w.things.size() == 8) return LOW - 1;
                Thing t = Thing.of(a[0]);
                t.price = a[1];
                w.things.add(t);
                return w.things.size() - 1;
            }
            case "of": return thing(a[0]) && in(a[1], 0, 11) ? w.told(a[0], a[1]) : LOW;
            case "change": {
                if (!thing(a[0]) || !in(a[1], 0, 6) || !in(a[2], 0, MOST_OF[a[1]])) return LOW;
                int was = w.told(a[0], a[1]);
                w.put(a[0], a[1], a[2]);
                return was;
            }
            case "hurts": return thing(a[0]) && in(a[1], 0, 9) ? w.things.get(a[0]).hurts(a[1], w) : LOW;
            case "go":
                if (!in(a[0], 1, 60)) return LOW;
                if (w.day + a[0] > 99999) return LOW - 4;
                w = w.behind(a[0]);
                return w.awarded();
            case "now": return now(a[0]);
            case "count": return count(a[0]);
            case "month": {
                if (!in(a[0], 1, 20)) return LOW;
                if (w.day + a[0] > 99999) return LOW - 4;
                for (int i = 0; i < a[0]; i++) {
                    int t = w.draw() % 8;
                    int f = w.draw() % 10;
                    w.list[w.day % 6] = 10 * t + f;
                    w.dayGoesBy();
                }
                return w.awarded();
            }
            case "odds": return odds(a[0], a[1], a[2], a[3]);
            case "seed": {
                int was = w.z;
                w.z = a[0];
                return was;
            }
            case "image": kept = w.copy(); return 1;
            case "undo":
                if (kept == null) return LOW - 3;
                w = kept.copy();
                return w.day;
            case "tear": {
                int was = kept == null ? 0 : 1;
                kept = null;
                return was;
            }
            case "status":
                if (a[0] == -1) return Arrays.stream(found).sum();
                return in(a[0], 0, 6) ? found[a[0]] : LOW;
            default: return call.matches("feed|wipe|text|hold|as|sheet|write|copy|load|judge") ? rows(call, a) : asked(call, a);
        }
    }

    private long now(int what) {
        int claims = 0, worth = 0, worse = 0, awards = 0;
        for (int i = 0; i < w.things.size(); i++) {
            claims += w.told(i, 6);
            worth += w.told(i, 8);
            if (w.told(i, 10) > 0) worse += 1 << i;
            if (w.told(i, 11) > 0) awards += 1 << i;
        }
        long[] all = {w.day, w.awarded(), w.left(), claims, worse, awards, worth, w.meet() ? 1 : 0};
        return in(what, 0, 7) ? all[what] : LOW;
    }

    private long count(int what) {
        int held = 0;
        for (int s : w.spots) if (s >= 0) held++;
        long[] all = {w.day, w.things.size(), w.home[0], w.awarded(), now(3), tape.length(), w.z, held};
        return in(what, 0, 7) ? all[what] : LOW;
    }

    private long odds(int thing, int v, int n, int what) {
        if (!thing(thing) || !in(v, 0, 99) || !in(n, 0, 18) || !in(what, 0, 1)) return LOW;
        int good = 0;
        for (int f = 0; f < 10; f++) if (w.things.get(thing).hurts(f, w) <= v) good++;
        BigInteger above = BigInteger.valueOf(good).pow(n);
        BigInteger below = BigInteger.TEN.pow(n);
        BigInteger gcd = above.gcd(below);
        return (what == 0 ? above : below).divide(gcd).longValueExact();
    }

    private long asked(String call, int[] a) {
        switch (call) {
            case "ahead":
                if (!thing(a[0]) || a[1] != 4 && !in(a[1], 8, 11) || !in(a[2], 0, 100)) return LOW;
                return w.behind(a[2]).told(a[0], a[1]);
            case "judged": return in(a[0], 0, 100) ? w.behind(a[0]).awarded() : LOW;
            case "worthless":
                if (!thing(a[0]) || !in(a[1], 0, 999)) return LOW;
                return fewest(0, 200, n -> w.behind(n).told(a[0], 8) <= a[1]);
            case "owing":
                if (!thing(a[0]) || !in(a[1], 0, 999)) return LOW;
                return fewest(0, 200, n -> w.behind(n).told(a[0], 11) >= a[1]);
            case "forgiven": return fewest(0, 200, n -> w.behind(n).awarded() == 0);
            case "claimFor": {
                if (!thing(a[0]) || !in(a[1], 0, 60)) return LOW;
                World then = w.behind(a[1]);
                int best = 0, most = -1;
                for (int c = 0; c <= 999; c++) {
                    then.put(a[0], 6, c);
                    int award = then.told(a[0], 11);
                    if (award > most) {
                        most = award;
                        best = c;
                    }
                }
                return best;
            }
            case "peopleFor": return in(a[0], 0, 60) ? leastBy(1, 9, a[0], -1) : LOW;
            case "kindFor": return thing(a[0]) && in(a[1], 0, 60) ? leastBy(0, 6, a[1], a[0]) : LOW;
            case "forceFor":
                if (!in(a[0], 0, 5) || !in(a[1], 0, 9999) || !in(a[2], 0, 60)) return LOW;
                return fewest(0, 9, f -> {
                    World o = w.copy();
                    o.list[a[0]] = o.list[a[0]] / 10 * 10 + f;
                    return o.behind(a[2]).awarded() >= a[1];
                });
            case "giveUp": return giveUp(a[0], a[1]);
            case "fits": case "kinds": {
                int finding = sheetFinding(a[0]);
                if (finding != 0) return finding;
                if (!thing(a[1])) return LOW;
                int all = 0;
                for (int c = 0; c < (call.equals("fits") ? 600 : 7); c++) {
                    World o = w.copy();
                    o.put(a[1], call.equals("fits") ? 2 : 0, c);
                    if (tells(a[0], o, a[1])) all += call.equals("fits") ? 1 : 1 << c;
                }
                return all;
            }
            default: throw new IllegalStateException(call);
        }
    }

    private int leastBy(int from, int to, int n, int thing) {
        int best = from, least = Integer.MAX_VALUE;
        for (int c = from; c <= to; c++) {
            World o = w.copy();
            if (thing < 0) o.home[1] = c;
            else o.put(thing, 0, c);
            int awarded = o.behind(n).awarded();
            if (awarded < least) {
                least = awarded;
                best = c;
            }
        }
        return best;
    }

    private long giveUp(int v, int n) {
        if (!in(v, 0, 9999) || !in(n, 0, 20)) return LOW;
        for (int size = 0; size <= w.things.size(); size++) {
            for (int set = 0; set < 1 << w.things.size(); set++) {
                if (Integer.bitCount(set) != size) continue;
                World o = w.copy();
                for (int t = 0; t < o.things.size(); t++) if ((set >> t & 1) == 1) o.put(t, 6, 0);
                if (o.behind(n).left() >= v) return set;
            }
        }
        return LOW - 3;
    }

    private static final int[] ABOVE = {-1, 0, 0, 2, 3, 0, 1};

    private long rows(String call, int[] a) {
        int finding = call.matches("write|load|judge") ? sheetFinding(a[0]) : 0;
        if (finding != 0) return finding;
        switch (call) {
            case "feed":
                if (!in(a[1], 1, 4)) return LOW;
                if (tape.length() + a[1] > 120) return LOW - 1;
                for (int i = a[1] - 1; i >= 0; i--) tape += (char) (a[0] >> 8 * i & 255);
                return tape.length();
            case "wipe": {
                int had = tape.length();
                tape = "";
                return had;
            }
            case "text": {
                World o = w.copy();
                String s = tape;
                tape = "";
                try {
                    int items = new Text(o, s).items();
                    w = o;
                    return items;
                } catch (Text.Fault f) {
                    return -1 - f.place;
                }
            }
            case "hold":
                if (!in(a[0], 0, 9) || a[1] != -1 && !thing(a[1])) return LOW;
                w.spots[a[0]] = a[1];
                return 1;
            case "as": {
                if (!in(a[0], 0, 9) || !in(a[1], 0, 6)) return LOW;
                if (w.spots[a[0]] < 0) return LOW - 5;
                for (int k = w.told(w.spots[a[0]], 0); k >= 0; k = ABOVE[k]) if (k == a[1]) return w.spots[a[0]];
                return LOW - 2;
            }
            case "sheet":
                if (!in(a[0], 0, 3) || a[1] != 0 && a[1] != 8 && a[1] != 16 && a[1] != 32) return LOW;
                if (a[2] < 0) return LOW - 6;
                if (a[2] > 40) return LOW;
                sheets[a[0]] = a[1] == 0 ? null : new int[a[2]];
                bits[a[0]] = a[1];
                return a[1] == 0 ? 0 : a[2];
            case "write":
                if (!in(a[1], 0, sheets[a[0]].length - 1)) return LOW;
                sheets[a[0]][a[1]] = bits[a[0]] == 8 ? (byte) a[2] : bits[a[0]] == 16 ? (short) a[2] : a[2];
                return 1;
            case "copy": {
                if (!in(a[0], 0, 3) || !in(a[2], 0, 3)) return LOW;
                if (sheets[a[0]] == null || sheets[a[2]] == null) return LOW - 5;
                if (bits[a[0]] != bits[a[2]]) return LOW - 2;
                if (a[1] < 0 || a[3] < 0 || a[4] < 0) return LOW;
                if ((long) a[1] + a[4] > sheets[a[0]].length || (long) a[3] + a[4] > sheets[a[2]].length) return LOW;
                int[] were = sheets[a[0]].clone();
                for (int i = 0; i < a[4]; i++) sheets[a[2]][a[3] + i] = were[a[1] + i];
                return a[4];
            }
            case "load": {
                int came = 0;
                for (int v : sheets[a[0]]) {
                    if (!thing(came) || !in(v, 0, 999)) break;
                    w.put(came, 6, v);
                    came++;
                }
                return came;
            }
            default:
                for (int i = 0; i < sheets[a[0]].length; i++) {
                    if (!thing(i) || sheets[a[0]][i] != w.told(i, 11)) return 1 + i;
                }
                return 0;
        }
    }

    // ---- the class itself, by the names of its calls

    private static long call(JudgedDeposits x, String call, int[] a) {
        switch (call) {
            case "set": return x.set(a[0], a[1]);
            case "home": return x.home(a[0]);
            case "blow": return x.blow(a[0], a[1], a[2]);
            case "listed": return x.listed(a[0]);
            case "thing": return x.thing(a[0], a[1]);
            case "of": return x.of(a[0], a[1]);
            case "change": return x.change(a[0], a[1], a[2]);
            case "hurts": return x.hurts(a[0], a[1]);
            case "go": return x.go(a[0]);
            case "now": return x.now(a[0]);
            case "ahead": return x.ahead(a[0], a[1], a[2]);
            case "judged": return x.judged(a[0]);
            case "worthless": return x.worthless(a[0], a[1]);
            case "owing": return x.owing(a[0], a[1]);
            case "forgiven": return x.forgiven();
            case "claimFor": return x.claimFor(a[0], a[1]);
            case "peopleFor": return x.peopleFor(a[0]);
            case "kindFor": return x.kindFor(a[0], a[1]);
            case "forceFor": return x.forceFor(a[0], a[1], a[2]);
            case "giveUp": return x.giveUp(a[0], a[1]);
            case "fits": return x.fits(a[0], a[1]);
            case "kinds": return x.kinds(a[0], a[1]);
            case "month": return x.month(a[0]);
            case "odds": return x.odds(a[0], a[1], a[2], a[3]);
            case "seed": return x.seed(a[0]);
            case "feed": return x.feed(a[0], a[1]);
            case "wipe": return x.wipe();
            case "text": return x.text();
            case "hold": return x.hold(a[0], a[1]);
            case "as": return x.as(a[0], a[1]);
            case "sheet": return x.sheet(a[0], a[1], a[2]);
            case "write": return x.write(a[0], a[1], a[2]);
            case "copy": return x.copy(a[0], a[1], a[2], a[3], a[4]);
            case "load": return x.load(a[0]);
            case "judge": return x.judge(a[0]);
            case "image": return x.image();
            case "undo": return x.undo();
            case "tear": return x.tear();
            case "count": return x.count(a[0]);
            case "status": return x.status(a[0]);
            default: throw new IllegalStateException(call);
        }
    }

    // ---- drawn calls

    // For each call: its name, how often it is drawn, then for each number that it takes its least and its most.
    private static final Object[][] CALLS = {
        {"set", 6, 0, 6, 0, 9}, {"set", 2, 4, 4, 0, 2}, {"set", 3, 0, 0, 0, 2000}, {"set", 1, 5, 6, 0, 300}, {"set", 3, 2, 3, 1, 1},
        {"set", 3, 4, 4, 0, 0}, {"set", 3, 5, 5, 0, 0}, {"home", 2, 0, 6}, {"blow", 10, 0, 5, 0, 7, 0, 9}, {"listed", 2, 0, 5},
        {"thing", 12, 0, 6, 0, 999}, {"of", 20, 0, 7, 0, 11}, {"change", 3, 0, 7, 0, 0, 0, 6}, {"change", 6, 0, 7, 3, 4, 0, 99},
        {"change", 3, 0, 7, 2, 2, 0, 900}, {"change", 3, 0, 7, 5, 5, 0, 200}, {"change", 2, 0, 7, 2, 2, 9900, 9999},
        {"change", 2, 0, 7, 5, 5, 9900, 9999}, {"change", 10, 0, 7, 6, 6, 0, 999}, {"change", 3, 0, 7, 1, 1, 0, 999},
        {"hurts", 4, 0, 7, 0, 9}, {"go", 5, 1, 12}, {"go", 1, 1, 60}, {"now", 10, 0, 7}, {"ahead", 6, 0, 7, 8, 11, 0, 100},
        {"ahead", 3, 0, 7, 4, 4, 0, 100}, {"judged", 6, 0, 100}, {"worthless", 4, 0, 7, 0, 999}, {"owing", 4, 0, 7, 0, 400},
        {"forgiven", 2}, {"claimFor", 5, 0, 7, 0, 60}, {"peopleFor", 5, 0, 60}, {"kindFor", 5, 0, 7, 0, 60},
        {"forceFor", 5, 0, 5, 0, 1000, 0, 60}, {"giveUp", 3, 0, 2000, 0, 20}, {"kinds", 6, 0, 3, 0, 7}, {"fits", 1, 0, 3, 0, 7},
        {"month", 3, 1, 20}, {"odds", 5, 0, 7, 0, 99, 0, 18, 0, 1}, {"seed", 2, Integer.MIN_VALUE, Integer.MAX_VALUE},
        {"hold", 5, 0, 9, -1, 7}, {"as", 6, 0, 9, 0, 6}, {"sheet", 3, 0, 3, 32, 32, 0, 12}, {"sheet", 1, 0, 3, 16, 16, 0, 40},
        {"sheet", 1, 0, 3, 8, 8, 0, 40}, {"sheet", 1, 0, 3, 0, 0, 0, 40}, {"write", 10, 0, 3, 0, 11, -2, 999},
        {"copy", 5, 0, 3, 0, 8, 0, 3, 0, 8, 0, 8}, {"load", 3, 0, 3}, {"judge", 4, 0, 3}, {"image", 2}, {"undo", 1}, {"tear", 1},
        {"count", 8, 0, 7}, {"status", 3, -1, 6}, {"feed", 2, Integer.MIN_VALUE, Integer.MAX_VALUE, 1, 4}, {"wipe", 1}, {"text", 1},
    };
    private static final int[] ODD = {-1, 0, 1, 2, 7, 8, 9, 10, 40, 41, 60, 61, 99, 100, 101, 200, 599, 999, 1000, 9999, 10000,
        Integer.MAX_VALUE, Integer.MIN_VALUE, Integer.MAX_VALUE - 1, -2};
    private static final String[] WORDS = {"thing", "carpet", "wall", "paint", "mural", "lamp", "rug", "aged", "is", "claim", "home",
        "blow", "offer", "silent", ";", ";", ";", "rugs", "i", "%", "\u00e9", "A"};

    private final Random random;
    private final JudgedDeposits x = new JudgedDeposits();
    private final StringBuilder log = new StringBuilder();

    OracleTest(long seed) { random = new Random(seed); }

    private boolean both(String name, int... a) {
        long want = answer(name, a);
        long got;
        String thrown = "";
        try {
            got = call(x, name, a);
        } catch (RuntimeException e) {
            got = 0;
            thrown = " by " + e;
        }
        log.append(name).append(Arrays.toString(a)).append(" -> ").append(got).append('\n');
        if (got == want && thrown.isEmpty()) return true;
        System.out.println(log + "due is " + want + thrown);
        return false;
    }

    private int[] drawn(Object[] c) {
        int[] a = new int[c.length / 2 - 1];
        for (int i = 0; i < a.length; i++) {
            int least = (Integer) c[2 + 2 * i];
            int most = (Integer) c[3 + 2 * i];
            a[i] = random.nextInt(20) == 0 ? ODD[random.nextInt(ODD.length)]
                : (int) (least + (long) (random.nextDouble() * ((long) most - least + 1)));
        }
        if (c[0].equals("feed") && random.nextBoolean()) a[0] = 0x20202020;
        return a;
    }

    // A text that is mostly right.
    private String drawnText() {
        StringBuilder b = new StringBuilder();
        int items = 1 + random.nextInt(5);
        for (int i = 0; i < items; i++) {
            if (i > 0) b.append(random.nextInt(30) == 0 ? " " : ";");
            if (random.nextInt(3) == 0) b.append(' ');
            int kind = random.nextInt(11);
            if (kind < 7) {
                b.append(WORDS[kind]).append(number(999));
                if (random.nextBoolean()) b.append(" aged").append(number(random.nextInt(5) == 0 ? 9999 : 600));
                if (random.nextBoolean()) b.append(" is").append(number(99));
                if (random.nextBoolean()) b.append("claim").append(number(999));
            } else if (kind == 7) {
                b.append("home").append(number(9999)).append(number(9));
            } else if (kind == 8) {
                b.append("blow").append(number(5)).append(number(7)).append(number(9));
            } else if (kind == 9) {
                b.append("offer").append(number(300)).append(number(300));
            } else {
                b.append("silent").append(number(2));
            }
        }
        if (random.nextInt(4) == 0) b.insert(random.nextInt(b.length() + 1), WORDS[random.nextInt(WORDS.length)]);
        if (random.nextInt(4) == 0) b.deleteCharAt(random.nextInt(b.length()));
        if (random.nextInt(8) == 0) b.insert(random.nextInt(b.length() + 1), random.nextInt(100000));
        return b.length() > 120 ? b.substring(0, 120) : b.toString();
    }

    private String number(int most) { return " " + (random.nextInt(20) == 0 ? "0" : "") + random.nextInt(most + 1 + (random.nextInt(20) == 0 ? 1 : 0)); }

    private boolean readText() {
        String s = drawnText();
        if (!both("wipe")) return false;
        for (int i = 0; i < s.length(); i += 4) {
            int n = Math.min(4, s.length() - i);
            int v = 0;
            for (int k = 0; k < n; k++) v = v << 8 | s.charAt(i + k);
            if (!both("feed", v, n)) return false;
        }
        return both("text");
    }

    // A sheet of the awards that are due, so that fits() and kinds() find something.
    private boolean tellAwards() {
        if (w.things.isEmpty()) return true;
        int thing = random.nextInt(w.things.size());
        int s = random.nextInt(4);
        int n = random.nextInt(13);
        if (!both("sheet", s, 32, n)) return false;
        for (int i = 0; i < n; i++) {
            int v = random.nextInt(4) == 0 ? -1 : (int) w.behind(i).told(thing, 11) + (random.nextInt(30) == 0 ? 1 : 0);
            if (!both("write", s, i, v)) return false;
        }
        return both("kinds", s, thing) && (random.nextInt(4) != 0 || both("fits", s, thing));
    }

    // A sheet of the awards of all, so that judge() has something to say yes to.
    private boolean tellAll() {
        int n = random.nextInt(w.things.size() + 1) + (random.nextInt(5) == 0 ? 1 : 0);
        if (!both("sheet", 1, 16, n)) return false;
        for (int i = 0; i < n; i++) if (!both("write", 1, i, thing(i) ? w.told(i, 11) : 0)) return false;
        return both("judge", 1);
    }

    private boolean run(int calls) {
        int all = 0;
        for (Object[] c : CALLS) all += (Integer) c[1];
        for (int i = 0; i < calls; i++) {
            int special = random.nextInt(60);
            if (special == 0 && !readText()) return false;
            if (special == 1 && !tellAwards()) return false;
            if (special == 2 && !tellAll()) return false;
            int pick = random.nextInt(all);
            Object[] c = CALLS[0];
            for (Object[] d : CALLS) {
                c = d;
                pick -= (Integer) d[1];
                if (pick < 0) break;
            }
            if (!both((String) c[0], drawn(c))) return false;
        }
        return true;
    }

    public static void main(String[] args) {
        int runs = args.length > 0 ? Integer.parseInt(args[0]) : 400;
        for (int seed = 0; seed < runs; seed++) {
            if (!new OracleTest(seed).run(300)) {
                System.out.println("run " + seed + " is not as due");
                System.exit(1);
            }
        }
        System.out.println(runs + " runs are as due");
    }
}
