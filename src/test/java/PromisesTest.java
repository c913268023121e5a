// Each promise of the document by answers reckoned by hand: ordinary inputs, edges, wrong inputs.
public final class PromisesTest {
    private static final int BEYOND = -1000001;
    private static final int FULL = -1000002;
    private static final int KIND = -1000003;
    private static final int NONE = -1000004;
    private static final int STATE = -1000005;
    private static final int MISSING = -1000006;
    private static final int SIZE = -1000007;
    private static final int THING = 0, CARPET = 1, WALL = 2, PAINT = 3, MURAL = 4, LAMP = 5, RUG = 6;

    private static int wrong = 0;
    private static int asked = 0;

    private static void due(String call, long got, long want) {
        asked++;
        if (got != want) {
            wrong++;
            System.out.println(call + " answered " + got + ", due is " + want);
        }
    }

    private static int text(JudgedDeposits x, String text) {
        x.wipe();
        for (int i = 0; i < text.length(); i++) {
            x.feed(text.charAt(i), 1);
        }
        return x.text();
    }

    private static JudgedDeposits told(String text) {
        JudgedDeposits x = new JudgedDeposits();
        due("the text of a test: " + text, text(x, text) >= 0 ? 1 : 0, 1);
        return x;
    }

    private static void row(JudgedDeposits x, int s, int... numbers) {
        x.sheet(s, 32, numbers.length);
        for (int i = 0; i < numbers.length; i++) {
            x.write(s, i, numbers[i]);
        }
    }

    // A row of all that can be asked without changing anything, so that two states can be told apart.
    private static String state(JudgedDeposits x) {
        StringBuilder b = new StringBuilder();
        for (int i = 0; i <= 6; i++) b.append(x.home(i)).append(',');
        for (int i = 0; i <= 5; i++) b.append(x.listed(i)).append(',');
        for (int t = 0; t < x.count(1); t++) for (int w = 0; w <= 11; w++) b.append(x.of(t, w)).append(',');
        for (int i = 0; i <= 7; i++) b.append(x.count(i)).append(',');
        return b.toString();
    }

    private static void p1NewObject() {
        JudgedDeposits x = new JudgedDeposits();
        int[] home = {1000, 2, 1, 1, 0, 0, 0};
        for (int i = 0; i < 7; i++) due("1 home " + i, x.home(i), home[i]);
        for (int i = 0; i < 6; i++) due("1 listed " + i, x.listed(i), 0);
        int[] count = {0, 0, 1000, 0, 0, 0, 1, 0};
        for (int i = 0; i < 8; i++) due("1 count " + i, x.count(i), count[i]);
        due("1 no image", x.undo(), NONE);
        for (int s = 0; s < 4; s++) due("1 sheets are missing", x.load(s), MISSING);
        for (int i = 0; i < 10; i++) due("1 spots are empty", x.as(i, 0), MISSING);
        due("1 status", new JudgedDeposits().status(-1), 0);
    }

    private static void p2and3Home() {
        int[] least = {0, 1, 0, 0, 0, 0, 0};
        int[] most = {9999, 9, 1, 1, 2, 9999, 9999};
        int[] first = {1000, 2, 1, 1, 0, 0, 0};
        JudgedDeposits x = new JudgedDeposits();
        for (int i = 0; i < 7; i++) {
            due("2 set most " + i, x.set(i, most[i]), first[i]);
            due("2 above " + i, x.set(i, most[i] + 1), BEYOND);
            due("3 home most " + i, x.home(i), most[i]);
            due("2 set least " + i, x.set(i, least[i]), most[i]);
            due("2 below " + i, x.set(i, least[i] - 1), BEYOND);
            due("3 home least " + i, x.home(i), least[i]);
        }
        for (int what : new int[] {-1, 7, Integer.MAX_VALUE, Integer.MIN_VALUE}) {
            due("2 what " + what, x.set(what, 1), BEYOND);
            due("3 what " + what, x.home(what), BEYOND);
        }
        due("2 a finding is told", x.status(0), 22);
    }

    private static void p4and5List() {
        JudgedDeposits x = new JudgedDeposits();
        for (int i = 0; i < 6; i++) due("4 blow " + i, x.blow(i, 7 - i, 9 - i), 0);
        for (int i = 0; i < 6; i++) due("5 listed " + i, x.listed(i), 10 * (7 - i) + 9 - i);
        due("4 what it was", x.blow(0, 0, 0), 79);
        due("5 now", x.listed(0), 0);
        int[][] bad = {{-1, 0, 0}, {6, 0, 0}, {0, -1, 0}, {0, 8, 0}, {0, 0, -1}, {0, 0, 10}};
        for (int[] b : bad) due("4 beyond", x.blow(b[0], b[1], b[2]), BEYOND);
        due("5 beyond", x.listed(-1), BEYOND);
        due("5 beyond", x.listed(6), BEYOND);
    }

    private static void p6Thing() {
        JudgedDeposits x = new JudgedDeposits();
        due("6 kind", x.thing(-1, 0), BEYOND);
        due("6 kind", x.thing(7, 0), BEYOND);
        due("6 price", x.thing(0, -1), BEYOND);
        due("6 price", x.thing(0, 1000), BEYOND);
        for (int i = 0; i < 7; i++) due("6 number", x.thing(i, 999 - i), i);
        due("6 number", x.thing(6, 0), 7);
        due("6 beyond is asked first", x.thing(7, 0), BEYOND);
        due("6 full", x.thing(0, 0), FULL);
        due("6 count", x.count(1), 8);
        int[] first = {3, 996, 0, 99, 99, 0, 0};
        for (int w = 0; w < 7; w++) due("6 of " + w, x.of(3, w), first[w]);
    }

    private static void lives(int kind, int price, int want) {
        JudgedDeposits x = new JudgedDeposits();
        x.thing(kind, price);
        due("7 lives of " + kind, x.of(0, 7), want);
    }

    private static void worth(int kind, int price, int age, int want) {
        JudgedDeposits x = new JudgedDeposits();
        x.thing(kind, price);
        x.change(0, 2, age);
        due("7 worth of " + kind + " price " + price + " age " + age, x.of(0, 8), want);
    }

    private static void fair(int kind, int days, int people, int want) {
        JudgedDeposits x = new JudgedDeposits();
        x.thing(kind, 100);
        x.change(0, 5, days);
        x.set(1, people);
        due("7 fair of " + kind + " days " + days, x.of(0, 9), want);
    }

    private static void p7Of() {
        int[] lives = {500, 400, 1000, 200, 523, 300, 200};
        for (int k = 0; k < 7; k++) lives(k, 323, lives[k]);
        worth(THING, 300, 0, 300);
        worth(THING, 300, 100, 240);
        worth(THING, 7, 1, 6);
        worth(THING, 300, 499, 0);
        worth(THING, 300, 500, 0);
        worth(THING, 300, 9999, 0);
        worth(CARPET, 400, 100, 300);
        worth(CARPET, 400, 390, 20);
        worth(CARPET, 400, 9999, 20);
        worth(CARPET, 15, 9999, 15);
        worth(CARPET, 15, 0, 15);
        worth(RUG, 120, 150, 30);
        worth(RUG, 120, 190, 20);
        worth(RUG, 10, 190, 10);
        worth(WALL, 250, 9999, 250);
        worth(PAINT, 201, 50, 75);
        worth(PAINT, 201, 0, 100);
        worth(PAINT, 3, 60, 0);
        worth(PAINT, 201, 200, 0);
        worth(MURAL, 500, 20, 292);
        worth(MURAL, 0, 0, 50);
        worth(MURAL, 999, 9999, 50);
        worth(LAMP, 90, 100, 60);
        worth(LAMP, 90, 300, 0);
        fair(THING, 39, 5, 1);
        fair(THING, 40, 5, 2);
        fair(CARPET, 39, 5, 6);
        fair(RUG, 39, 5, 12);
        fair(WALL, 99, 5, 1);
        fair(PAINT, 100, 5, 5);
        fair(MURAL, 9999, 5, 0);
        fair(LAMP, 99, 5, 4);
        fair(LAMP, 40, 5, 2);
        fair(CARPET, 40, 5, 7);
        fair(RUG, 40, 5, 14);
        fair(WALL, 49, 5, 0);
        fair(WALL, 50, 5, 1);
        fair(PAINT, 49, 5, 3);
        fair(LAMP, 100, 5, 99);
        JudgedDeposits x = told("thing 200 is 60 claim 999");
        x.change(0, 3, 90);
        x.change(0, 5, 100);
        int[] all = {0, 200, 0, 90, 60, 100, 999, 500, 200, 5, 25, 50};
        for (int w = 0; w < 12; w++) due("7 of " + w, x.of(0, w), all[w]);
        x.change(0, 3, 50);
        due("7 worse is 0 at least", x.of(0, 10), 0);
        due("7 beyond", x.of(0, 12), BEYOND);
        due("7 beyond", x.of(0, -1), BEYOND);
        due("7 beyond", x.of(1, 0), BEYOND);
        due("7 beyond", x.of(-1, 0), BEYOND);
    }

    private static void p7Award() {
        JudgedDeposits x = told("thing 200 is 60 claim 30");
        due("7 by the claim", x.of(0, 11), 30);
        x.change(0, 6, 999);
        due("7 by what is worse", x.of(0, 11), 78);
        x.set(4, 1);
        due("7 the tenant is silent: worth", x.of(0, 11), 200);
        x.change(0, 6, 150);
        due("7 the tenant is silent: claim", x.of(0, 11), 150);
        x.set(3, 0);
        due("7 no last list, but silent", x.of(0, 11), 150);
        x.set(4, 0);
        due("7 no last list", x.of(0, 11), 0);
        x.set(4, 2);
        due("7 no last list, the owner is silent", x.of(0, 11), 0);
        x.set(3, 1);
        due("7 the owner is silent", x.of(0, 11), 0);
        x.set(4, 1);
        x.set(2, 0);
        due("7 no first list", x.of(0, 11), 0);
        x.set(4, 0);
        due("7 no first list", x.of(0, 11), 0);
    }

    private static void p8Change() {
        JudgedDeposits x = new JudgedDeposits();
        x.thing(2, 100);
        int[] first = {2, 100, 0, 99, 99, 0, 0};
        int[] most = {6, 999, 9999, 99, 99, 9999, 999};
        for (int w = 0; w < 7; w++) {
            due("8 change most " + w, x.change(0, w, most[w]), first[w]);
            due("8 is so " + w, x.of(0, w), most[w]);
            due("8 above " + w, x.change(0, w, most[w] + 1), BEYOND);
            due("8 below " + w, x.change(0, w, -1), BEYOND);
            due("8 change least " + w, x.change(0, w, 0), most[w]);
            due("8 is so " + w, x.of(0, w), 0);
        }
        due("8 what", x.change(0, 7, 0), BEYOND);
        due("8 what", x.change(0, -1, 0), BEYOND);
        due("8 thing", x.change(1, 0, 0), BEYOND);
        due("8 thing", x.change(-1, 0, 0), BEYOND);
    }

    private static void p9Hurts() {
        JudgedDeposits x = told("thing 1;carpet 1;wall 1;paint 1;mural 1;lamp 1;rug 1;home 1 4");
        int[] none = {0, 0, 0, 0, 0, 0, 0};
        int[] one = {5, 9, 1, 2, 12, 0, 9};
        int[] four = {20, 24, 4, 8, 18, 0, 24};
        int[] five = {25, 29, 5, 10, 20, 99, 29};
        int[] nine = {45, 49, 9, 18, 28, 99, 49};
        for (int t = 0; t < 7; t++) {
            due("9 hurts 0", x.hurts(t, 0), none[t]);
            due("9 hurts 1", x.hurts(t, 1), one[t]);
            due("9 hurts 4", x.hurts(t, 4), four[t]);
            due("9 hurts 5", x.hurts(t, 5), five[t]);
            due("9 hurts 9", x.hurts(t, 9), nine[t]);
        }
        due("9 force", x.hurts(0, 10), BEYOND);
        due("9 force", x.hurts(0, -1), BEYOND);
        due("9 thing", x.hurts(7, 0), BEYOND);
        due("9 thing", x.hurts(-1, 0), BEYOND);
    }

    private static void p10Go() {
        JudgedDeposits x = told("thing 500 claim 999;wall 100;blow 0 0 2;blow 1 7 9;blow 3 1 9");
        due("10 a day", x.go(1), 49);
        due("10 is", x.of(0, 4), 89);
        due("10 age", x.of(0, 2), 1);
        due("10 days", x.of(1, 5), 1);
        due("10 three days", x.go(3), 49);
        due("10 wall", x.of(1, 4), 90);
        x.go(5);
        due("10 day", x.count(0), 9);
        due("10 before the tenth", x.of(0, 4), 79);
        x.go(1);
        due("10 the tenth day wears", x.of(0, 4), 78);
        due("10 all of them", x.of(1, 4), 80);
        x.change(0, 2, 9999);
        x.change(1, 5, 9999);
        x.change(0, 4, 1);
        x.change(1, 4, 0);
        x.go(60);
        due("10 age at most", x.of(0, 2), 9999);
        due("10 days at most", x.of(1, 5), 9999);
        due("10 is at least", x.of(0, 4), 0);
        due("10 is at least", x.of(1, 4), 0);
        due("10 beyond", x.go(0), BEYOND);
        due("10 beyond", x.go(61), BEYOND);
        due("10 beyond", x.go(-1), BEYOND);
        due("10 nothing changes", x.count(0), 70);
    }

    // DAY comes so far only by more calls than the document speaks of; the bound itself is the document's.
    private static void p10and24State() {
        JudgedDeposits x = new JudgedDeposits();
        for (int i = 0; i < 1666; i++) x.go(60);
        due("10 day", x.count(0), 99960);
        due("10 too far", x.go(40), STATE);
        due("10 beyond is asked first", x.go(61), BEYOND);
        x.go(34);
        due("24 too far", x.month(6), STATE);
        x.image();
        due("24 to the last", x.month(5), 0);
        due("24 to the last", x.count(0), 99999);
        x.undo();
        due("10 to the last", x.go(5), 0);
        due("24 too far", x.month(1), STATE);
        due("24 beyond is asked first", x.month(21), BEYOND);
        due("24 no draw", x.count(6), 1);
        due("10 too far", x.go(1), STATE);
        due("13 looks stay at the last day", x.judged(100), 0);
        due("10 day", x.count(0), 99999);
    }

    private static void p11Now() {
        JudgedDeposits x = told("thing 200 is 60 claim 70;wall 50 claim 5;lamp 30 is 9 claim 0;rug 40 is 0 claim 99");
        int[] now = {0, 108, 892, 174, 13, 9, 320, 0};
        for (int w = 0; w < 8; w++) due("11 now " + w, x.now(w), now[w]);
        x.set(0, 100);
        due("11 no more than the deposit", x.now(1), 100);
        due("11 left", x.now(2), 0);
        x.set(5, 60);
        x.set(6, 59);
        due("11 offers do not meet", x.now(7), 0);
        due("11 awarded", x.now(1), 100);
        x.set(6, 60);
        due("11 offers meet", x.now(7), 1);
        due("11 half", x.now(1), 60);
        x.set(6, 61);
        due("11 half, cut", x.now(1), 60);
        x.set(6, 200);
        due("11 offers, no more than the deposit", x.now(1), 100);
        x.set(5, 0);
        due("11 nothing asked", x.now(7), 0);
        x.set(5, 10);
        x.set(6, 21);
        x.set(2, 0);
        due("11 offers meet without lists", x.now(1), 15);
        due("11 left", x.now(2), 85);
        x.go(7);
        due("11 day", x.now(0), 7);
        JudgedDeposits y = told("wall 100;wall 100 is 98 claim 1;wall 9;wall 9;wall 9;wall 9;wall 9;wall 100 is 9 claim 1");
        due("11 worse by one", y.now(4), 130);
        due("11 an award of one", y.now(5), 130);
        due("11 of eight", y.now(3), 2);
        due("11 of eight", y.now(6), 345);
        due("11 of eight", y.now(1), 2);
        due("21 of eight", y.giveUp(1000, 0), 130);
        due("11 beyond", x.now(8), BEYOND);
        due("11 beyond", x.now(-1), BEYOND);
    }

    private static void p12and13Ahead() {
        JudgedDeposits x = told("thing 500 claim 999;carpet 400;blow 0 0 2;home 60 3");
        String before = state(x);
        due("12 is", x.ahead(0, 4, 0), 99);
        due("12 is", x.ahead(0, 4, 1), 89);
        due("12 is", x.ahead(0, 4, 10), 78);
        due("12 is", x.ahead(0, 4, 100), 0);
        due("12 worth", x.ahead(0, 8, 100), 400);
        due("12 fair", x.ahead(1, 9, 100), 8);
        due("12 worse", x.ahead(0, 10, 100), 94);
        due("12 award", x.ahead(0, 11, 100), 376);
        due("13 judged", x.judged(0), 0);
        due("13 judged", x.judged(1), 49);
        due("13 judged", x.judged(100), 60);
        due("12 nothing changes", state(x).equals(before) ? 1 : 0, 1);
        for (int what : new int[] {-1, 0, 1, 2, 3, 5, 6, 7, 12}) due("12 what " + what, x.ahead(0, what, 1), BEYOND);
        due("12 n", x.ahead(0, 4, 101), BEYOND);
        due("12 n", x.ahead(0, 4, -1), BEYOND);
        due("12 thing", x.ahead(2, 4, 1), BEYOND);
        due("12 thing", x.ahead(-1, 4, 1), BEYOND);
        due("13 n", x.judged(101), BEYOND);
        due("13 n", x.judged(-1), BEYOND);
    }

    private static void p14Worthless() {
        JudgedDeposits x = told("thing 500;wall 10;thing 500 aged 300");
        String before = state(x);
        due("14 now", x.worthless(0, 500), 0);
        due("14 a day", x.worthless(0, 499), 1);
        due("14 the last", x.worthless(0, 300), 200);
        due("14 too late", x.worthless(0, 299), NONE);
        due("14 never", x.worthless(1, 9), NONE);
        due("14 wall", x.worthless(1, 10), 0);
        due("14 nothing", x.worthless(2, 0), 200);
        due("14 nothing changes", state(x).equals(before) ? 1 : 0, 1);
        due("14 v", x.worthless(0, -1), BEYOND);
        due("14 v", x.worthless(0, 1000), BEYOND);
        due("14 v", x.worthless(0, 999), 0);
        due("14 thing", x.worthless(3, 0), BEYOND);
    }

    private static void p15Owing() {
        JudgedDeposits x = told("thing 500 claim 999;blow 5 0 1");
        String before = state(x);
        due("15 now", x.owing(0, 0), 0);
        due("15 the first blow", x.owing(0, 1), 6);
        due("15 so much", x.owing(0, 24), 6);
        due("15 more", x.owing(0, 25), 10);
        due("15 never", x.owing(0, 999), NONE);
        due("15 nothing changes", state(x).equals(before) ? 1 : 0, 1);
        // A MURAL of PRICE 0 is WORTH 50 for ever, nothing is FAIR, and each tenth DAY makes it 1 WORSE.
        JudgedDeposits y = told("mural 0 claim 999");
        due("15 the last", y.owing(0, 10), 200);
        due("15 too late", y.owing(0, 11), NONE);
        due("15 v", x.owing(0, -1), BEYOND);
        due("15 v", x.owing(0, 1000), BEYOND);
        due("15 thing", x.owing(1, 0), BEYOND);
    }

    private static void p16Forgiven() {
        due("16 nothing is claimed", new JudgedDeposits().forgiven(), 0);
        JudgedDeposits x = told("lamp 100 is 50 claim 100");
        due("16 a lamp", x.forgiven(), 100);
        due("16 nothing changes", x.count(0), 0);
        JudgedDeposits y = told("wall 100 is 50 claim 100");
        due("16 never", y.forgiven(), NONE);
        y.set(0, 0);
        due("16 no deposit", y.forgiven(), 0);
        y.set(0, 10);
        y.set(4, 2);
        due("16 a silent owner", y.forgiven(), 0);
        y.set(5, 1);
        y.set(6, 1);
        due("16 offers", y.forgiven(), NONE);
        JudgedDeposits z = told("lamp 100 is 50 claim 100");
        z.set(5, 1);
        z.set(6, 1);
        due("16 offers", z.forgiven(), NONE);
        JudgedDeposits edge = told("thing 999 aged 299 claim 999");
        edge.set(4, 1);
        due("16 in 200 days WORTH is 999 / 500", edge.forgiven(), NONE);
        edge.change(0, 2, 300);
        due("16 the last", edge.forgiven(), 200);
    }

    private static void p17ClaimFor() {
        JudgedDeposits x = told("thing 500 claim 3;blow 0 0 2;mural 0 is 0");
        String before = state(x);
        due("17 now", x.claimFor(0, 0), 0);
        due("17 a day", x.claimFor(0, 1), 49);
        due("17 sixty", x.claimFor(0, 60), 422);
        due("17 mural", x.claimFor(1, 0), 49);
        x.set(4, 1);
        due("17 the tenant is silent", x.claimFor(0, 1), 499);
        x.set(2, 0);
        due("17 nothing helps", x.claimFor(0, 60), 0);
        x.set(2, 1);
        x.set(4, 0);
        due("17 nothing changes", state(x).equals(before) ? 1 : 0, 1);
        due("17 n", x.claimFor(0, 61), BEYOND);
        due("17 n", x.claimFor(0, -1), BEYOND);
        due("17 thing", x.claimFor(2, 0), BEYOND);
    }

    private static void p18PeopleFor() {
        JudgedDeposits x = told("carpet 400 is 90 claim 999");
        due("18 five of 9", x.peopleFor(0), 9);
        x.change(0, 4, 95);
        due("18 the fewest of several", x.peopleFor(0), 4);
        x.blow(0, 0, 1);
        due("18 each takes and gives one", x.peopleFor(1), 1);
        x.change(0, 4, 5);
        due("18 is can't be below 0", x.peopleFor(1), 9);
        due("18 nothing changes", x.home(1), 2);
        due("18 n", x.peopleFor(61), BEYOND);
        due("18 n", x.peopleFor(-1), BEYOND);
        due("18 nothing is there", new JudgedDeposits().peopleFor(60), 1);
    }

    private static void p19KindFor() {
        JudgedDeposits x = told("wall 100 is 0 claim 999");
        due("19 a paint of 100", x.kindFor(0, 0), PAINT);
        x.change(0, 2, 500);
        due("19 a worthless thing", x.kindFor(0, 0), THING);
        due("19 of kinds", x.of(0, 0), WALL);
        x.change(0, 2, 300);
        due("19 an old paint", x.kindFor(0, 0), PAINT);
        x.change(0, 2, 0);
        x.change(0, 4, 99);
        x.blow(0, 0, 4);
        due("19 a lamp", x.kindFor(0, 1), LAMP);
        due("19 nothing now", x.kindFor(0, 0), THING);
        due("19 n", x.kindFor(0, 61), BEYOND);
        due("19 n", x.kindFor(0, -1), BEYOND);
        due("19 thing", x.kindFor(1, 0), BEYOND);
    }

    private static void p20ForceFor() {
        JudgedDeposits x = told("thing 500;thing 500 claim 999;blow 2 1 7");
        due("20 in three days", x.forceFor(2, 100, 3), 5);
        due("20 a little less", x.forceFor(2, 99, 3), 4);
        due("20 not yet", x.forceFor(2, 1, 2), NONE);
        due("20 nothing", x.forceFor(2, 0, 2), 0);
        due("20 now", x.forceFor(2, 0, 0), 0);
        due("20 now", x.forceFor(2, 1, 0), NONE);
        due("20 too much", x.forceFor(2, 9999, 60), NONE);
        due("20 another thing", x.forceFor(0, 9999, 60), NONE);
        due("20 the list is as it was", x.listed(2), 17);
        due("20 beyond", x.forceFor(6, 0, 0), BEYOND);
        due("20 beyond", x.forceFor(-1, 0, 0), BEYOND);
        due("20 beyond", x.forceFor(0, -1, 0), BEYOND);
        due("20 beyond", x.forceFor(0, 10000, 0), BEYOND);
        due("20 beyond", x.forceFor(0, 0, -1), BEYOND);
        due("20 beyond", x.forceFor(0, 0, 61), BEYOND);
    }

    private static void p21GiveUp() {
        JudgedDeposits x = told("wall 100 is 0 claim 30;wall 100 is 0 claim 50;wall 100 is 0 claim 20;wall 9 is 0 claim 50");
        String before = state(x);
        x.set(0, 200);
        // AWARDS are 30, 50, 20 and 8 (9 * 99 / 100).
        due("21 none", x.giveUp(92, 0), 0);
        due("21 one, the least", x.giveUp(93, 0), 1);
        due("21 one, not the first", x.giveUp(123, 0), 2);
        due("21 two", x.giveUp(143, 0), 3);
        due("21 two others", x.giveUp(150, 0), 3);
        due("21 three", x.giveUp(173, 0), 7);
        due("21 all", x.giveUp(200, 20), 15);
        due("21 too much", x.giveUp(201, 0), NONE);
        x.set(5, 10);
        x.set(6, 10);
        due("21 offers", x.giveUp(190, 0), 0);
        due("21 offers stay", x.giveUp(191, 0), NONE);
        x.set(5, 0);
        x.set(6, 0);
        x.set(0, 1000);
        due("21 nothing changes", state(x).equals(before) ? 1 : 0, 1);
        due("21 nothing is wanted", x.giveUp(0, 0), 0);
        JudgedDeposits few = told("wall 100 is 0 claim 20;wall 100 is 0 claim 30;wall 100 is 0 claim 50;home 100 2");
        due("21 one is fewer than two", few.giveUp(50, 0), 4);
        due("21 beyond", x.giveUp(-1, 0), BEYOND);
        due("21 beyond", x.giveUp(10000, 0), BEYOND);
        due("21 beyond", x.giveUp(0, -1), BEYOND);
        due("21 beyond", x.giveUp(0, 21), BEYOND);
        JudgedDeposits y = told("thing 500 claim 999;thing 500 claim 999");
        y.blow(2, 1, 9);
        due("21 behind days", y.giveUp(1000, 3), 2);
        due("21 not yet", y.giveUp(1000, 2), 0);
    }

    private static void p22Fits() {
        JudgedDeposits x = told("thing 500 is 0 claim 999;wall 100 is 0 claim 999");
        due("22 missing", x.fits(0, 9), MISSING);
        due("22 sheet", x.fits(4, 0), BEYOND);
        due("22 sheet", x.fits(-1, 0), BEYOND);
        x.sheet(0, 32, 0);
        due("22 thing", x.fits(0, 2), BEYOND);
        due("22 thing", x.fits(0, -1), BEYOND);
        due("22 nothing is told", x.fits(0, 0), 600);
        row(x, 0, -1, -1);
        due("22 any", x.fits(0, 0), 600);
        row(x, 0, 495);
        due("22 new", x.fits(0, 0), 1);
        // AWARD is 99 of 100 of WORTH (cut): 0 if it is WORTH 1 or 0, which is at AGE 499 and above.
        row(x, 0, 0);
        due("22 old", x.fits(0, 0), 101);
        row(x, 0, 1, 0);
        due("22 in its last days", x.fits(0, 0), 1);
        row(x, 0, -1, 0);
        due("22 tomorrow alone", x.fits(0, 0), 102);
        row(x, 0, -2);
        due("22 no award", x.fits(0, 0), 0);
        row(x, 0, 99, 99, 99, 99, 99, 99, 99, 99, 99, 99, 5);
        due("22 ten are asked", x.fits(0, 1), 600);
        row(x, 0, 99, 99, 99, 99, 99, 99, 99, 99, 99, 98);
        due("22 the tenth is asked", x.fits(0, 1), 0);
        due("22 nothing changes", x.of(0, 2), 0);
        JudgedDeposits y = told("wall 100 claim 999;blow 1 0 9");
        row(y, 0, 0, 0, 9, 9);
        due("22 blows come", y.fits(0, 0), 600);
        row(y, 0, 0, 9, 9, 9);
        due("22 not as told", y.fits(0, 0), 0);
    }

    private static void p23Kinds() {
        JudgedDeposits x = told("thing 100 claim 999;blow 0 0 5");
        due("23 missing", x.kinds(0, 9), MISSING);
        due("23 sheet", x.kinds(4, 0), BEYOND);
        due("23 sheet", x.kinds(-1, 0), BEYOND);
        row(x, 0);
        due("23 thing", x.kinds(0, 1), BEYOND);
        due("23 thing", x.kinds(0, -1), BEYOND);
        due("23 nothing is told", x.kinds(0, 0), 127);
        // Behind a day: 99 * 25 / 100, 99 * 25 / 100, 100 * 5 / 100, 49 * 7 / 100, 99 * 20 / 100, 99 * 99 / 100, 99 * 23 / 100.
        row(x, 0, 0, 24);
        due("23 thing, carpet", x.kinds(0, 0), 3);
        row(x, 0, 0, 5);
        due("23 wall", x.kinds(0, 0), 4);
        row(x, 0, -1, 3);
        due("23 paint", x.kinds(0, 0), 8);
        row(x, 0, -1, 19);
        due("23 mural", x.kinds(0, 0), 16);
        row(x, 0, -1, 98);
        due("23 lamp", x.kinds(0, 0), 32);
        row(x, 0, -1, 22);
        due("23 rug", x.kinds(0, 0), 64);
        row(x, 0, 1, -1);
        due("23 none", x.kinds(0, 0), 0);
        due("23 nothing changes", x.of(0, 0), THING);
    }

    private static void p24and26Month() {
        JudgedDeposits x = told("thing 500 claim 999;thing 500 claim 999;thing 500 claim 999;thing 500 claim 999");
        due("26 seed", x.seed(7), 1);
        int z = 7;
        int[] list = new int[6];
        int[] is = {99, 99, 99, 99};
        for (int day = 0; day < 20; day++) {
            z = z * 1103515245 + 12345;
            int thing = (z >>> 8) % 8;
            z = z * 1103515245 + 12345;
            int force = (z >>> 8) % 10;
            list[day % 6] = 10 * thing + force;
            if (thing < 4) is[thing] = Math.max(0, is[thing] - 5 * force);
            if (day % 10 == 9) for (int t = 0; t < 4; t++) is[t] = Math.max(0, is[t] - 1);
        }
        int want = 0;
        for (int t = 0; t < 4; t++) want += 480 * Math.max(0, 99 - is[t] - 1) / 100;
        due("24 awarded", x.month(20), Math.min(1000, want));
        due("24 z", x.count(6), z);
        due("24 day", x.count(0), 20);
        for (int i = 0; i < 6; i++) due("24 the list", x.listed(i), list[i]);
        for (int t = 0; t < 4; t++) due("24 is", x.of(t, 4), is[t]);
        due("24 beyond", x.month(0), BEYOND);
        due("24 beyond", x.month(21), BEYOND);
        due("24 nothing changes", x.count(6), z);
        due("26 seed", x.seed(Integer.MIN_VALUE), z);
        int told = x.status(-1);
        due("26 any z is no finding", x.seed(BEYOND), Integer.MIN_VALUE);
        due("26 any z is no finding", x.count(6), BEYOND);
        due("26 any z is no finding", x.seed(0), BEYOND);
        due("26 any z is no finding", x.status(-1), told);
    }

    private static void p25Odds() {
        JudgedDeposits x = told("thing 1;wall 1;lamp 1");
        due("25 no force", x.odds(0, 0, 0, 0), 1);
        due("25 no force", x.odds(0, 0, 0, 1), 1);
        due("25 one of ten", x.odds(0, 4, 18, 0), 1);
        due("25 one of ten", x.odds(0, 4, 18, 1), 1000000000000000000L);
        due("25 two of ten", x.odds(0, 5, 2, 0), 1);
        due("25 two of ten", x.odds(0, 5, 2, 1), 25);
        due("25 three of ten", x.odds(1, 2, 3, 0), 27);
        due("25 three of ten", x.odds(1, 2, 3, 1), 1000);
        due("25 half", x.odds(2, 98, 4, 0), 1);
        due("25 half", x.odds(2, 98, 4, 1), 16);
        due("25 all", x.odds(2, 99, 18, 0), 1);
        due("25 all", x.odds(2, 99, 18, 1), 1);
        due("25 nine of ten", x.odds(1, 8, 18, 0), 150094635296999121L);
        due("25 eight of ten", x.odds(1, 7, 2, 0), 16);
        due("25 eight of ten", x.odds(1, 7, 2, 1), 25);
        due("25 z", x.count(6), 1);
        due("25 thing", x.odds(3, 0, 0, 0), BEYOND);
        due("25 thing", x.odds(-1, 0, 0, 0), BEYOND);
        due("25 v", x.odds(0, -1, 0, 0), BEYOND);
        due("25 v", x.odds(0, 100, 0, 0), BEYOND);
        due("25 n", x.odds(0, 0, -1, 0), BEYOND);
        due("25 n", x.odds(0, 0, 19, 0), BEYOND);
        due("25 what", x.odds(0, 0, 0, -1), BEYOND);
        due("25 what", x.odds(0, 0, 0, 2), BEYOND);
        due("25 findings", x.status(0), 8);
    }

    private static void p27and28Tape() {
        JudgedDeposits x = new JudgedDeposits();
        due("27 n", x.feed(0, 0), BEYOND);
        due("27 n", x.feed(0, 5), BEYOND);
        // "rug 5" in the order in which it is fed, with a byte above that isn't taken.
        due("27 four", x.feed('r' << 24 | 'u' << 16 | 'g' << 8 | ' ', 4), 4);
        due("27 one", x.feed('x' << 8 | '5', 1), 5);
        due("29 so it is a rug", x.text(), 1);
        due("29 so it is a rug", x.of(0, 0) * 1000 + x.of(0, 1), 6005);
        for (int i = 0; i < 39; i++) x.feed(0x20202020, 3);
        due("27 so many", x.count(5), 117);
        due("27 full", x.feed(0, 4), FULL);
        due("27 beyond is asked first", x.feed(0, 5), BEYOND);
        due("27 as many as can be", x.feed(0x20202020, 3), 120);
        due("27 full", x.feed(0, 1), FULL);
        due("28 wipe", x.wipe(), 120);
        due("28 wipe", x.wipe(), 0);
        due("28 empty", x.count(5), 0);
    }

    private static void fault(String text, int place) {
        JudgedDeposits x = told("wall 7;home 8 9;blow 1 2 3;offer 4 5;silent 1");
        String before = state(x);
        due("29 the fault of: " + text, text(x, text), -1 - place);
        due("29 nothing changes by: " + text, state(x).equals(before) ? 1 : 0, 1);
        due("29 no finding", x.status(-1), 0);
    }

    private static void p29Text() {
        JudgedDeposits x = new JudgedDeposits();
        due("29 kinds", text(x, "thing 1;carpet 2;wall 3;paint 4;mural 5;lamp 6;rug 7"), 7);
        for (int t = 0; t < 7; t++) due("29 kinds", x.of(t, 0) * 10 + x.of(t, 1), t * 10 + t + 1);
        due("29 empty then", x.count(5), 0);
        due("29 all", text(x, "  rug 0999aged 9999is99 claim 999 ; home 9999 9;blow 5 7 9;offer 9999 9999;silent 2  "), 5);
        int[] rug = {6, 999, 9999, 99, 99, 0, 999};
        for (int w = 0; w < 7; w++) due("29 rug", x.of(7, w), rug[w]);
        int[] home = {9999, 9, 1, 1, 2, 9999, 9999};
        for (int w = 0; w < 7; w++) due("29 home", x.home(w), home[w]);
        due("29 blow", x.listed(5), 79);
        due("29 the ninth", text(x, "home 1 1; wall 3"), -11);
        due("29 nothing changes", x.home(0), 9999);
        due("29 least", text(x, "blow 5 0 0;home 0 1;offer 0 0;silent 0"), 4);
        due("29 least", x.listed(5) + x.home(0) + x.home(1) + x.home(4) + x.home(5) + x.home(6), 1);
        due("29 least", text(told("wall 1"), "wall 0 aged 0 is 0 claim 0"), 1);
        due("29 item by item", text(x, "home 1 1;home 2 2;home 3 3"), 3);
        due("29 item by item", x.home(0) * 10 + x.home(1), 33);
        due("29 some are left out", text(told("wall 1"), "thing 5 claim 6"), 1);
        fault("", 0);
        fault("   ", 3);
        fault(";", 0);
        fault("wall", 4);
        fault("wall ", 5);
        fault("wall 1000", 5);
        fault("wall 99999999999999999999", 5);
        fault("wall 4294967296", 5);
        fault("wall wall", 5);
        fault("wall 1 aged", 11);
        fault("wall 1 aged 10000", 12);
        fault("wall 1 is 100", 10);
        fault("wall 1 claim 1000", 13);
        fault("wall 1 claim 1 is 1", 15);
        fault("wall 1 is 1 is 1", 12);
        fault("wall 1 1", 7);
        fault("wall 1;", 7);
        fault("wall 1 ; ", 9);
        fault("wall 1;;wall 1", 7);
        fault("wall 1,wall 1", 6);
        fault("wall 1\twall 1", 6);
        fault("wall 1;" + (char) 233, 7);
        fault("Wall 1", 0);
        fault("walls 1", 0);
        fault("wal 1", 0);
        fault("ball 1", 0);
        fault("wald 1", 0);
        fault("wallz 1", 0);
        fault("zwall 1", 0);
        fault("5 wall", 0);
        fault("home 1", 6);
        fault("home 10000 1", 5);
        fault("home 1 0", 7);
        fault("home 1 10", 7);
        fault("blow 6 0 0", 5);
        fault("blow 0 8 0", 7);
        fault("blow 0 0 10", 9);
        fault("blow 0 0", 8);
        fault("offer 10000 1", 6);
        fault("offer 1 10000", 8);
        fault("silent 3", 7);
        fault("silent -1", 7);
        fault("aged 1", 0);
        fault("wall 1;wall 1;wall 1;wall 1;wall 1;wall 1;wall 1;wall 1000", 49);
    }

    private static void p30and31Spots() {
        JudgedDeposits x = told("thing 1;carpet 1;wall 1;paint 1;mural 1;lamp 1;rug 1");
        String[] under = {"1000000", "1100000", "1010000", "1011000", "1011100", "1000010", "1100001"};
        for (int t = 0; t < 7; t++) {
            due("30 hold", x.hold(t, t), 1);
            for (int k = 0; k < 7; k++) {
                due("31 " + t + " as " + k, x.as(t, k), under[t].charAt(k) == '1' ? t : KIND);
            }
        }
        due("40 spots", x.count(7), 7);
        due("31 missing", x.as(9, 6), MISSING);
        due("30 the last", x.hold(9, 6), 1);
        due("31 the last", x.as(9, 6), 6);
        due("30 nothing", x.hold(9, -1), 1);
        due("31 missing", x.as(9, 6), MISSING);
        x.change(6, 0, 5);
        due("31 by its kind now", x.as(6, 1), KIND);
        due("30 spot", x.hold(10, 0), BEYOND);
        due("30 spot", x.hold(-1, 0), BEYOND);
        due("30 thing", x.hold(0, 7), BEYOND);
        due("30 thing", x.hold(0, -2), BEYOND);
        due("31 spot", x.as(10, 0), BEYOND);
        due("31 spot", x.as(-1, 0), BEYOND);
        due("31 kind is asked before what it holds", x.as(9, 7), BEYOND);
        due("31 kind", x.as(0, -1), BEYOND);
    }

    private static void p32and33Sheets() {
        JudgedDeposits x = told("thing 1");
        due("32 sheet", x.sheet(4, 8, 1), BEYOND);
        due("32 sheet", x.sheet(-1, 8, -1), BEYOND);
        due("32 bits", x.sheet(0, 7, -1), BEYOND);
        due("32 bits", x.sheet(0, 64, 1), BEYOND);
        due("32 size", x.sheet(0, 8, -1), SIZE);
        due("32 size", x.sheet(0, 0, -1), SIZE);
        due("32 too many", x.sheet(0, 16, 41), BEYOND);
        due("32 too many", x.sheet(0, 0, 41), BEYOND);
        due("33 missing", x.write(0, 0, 0), MISSING);
        due("32 most", x.sheet(0, 8, 40), 40);
        due("33 last", x.write(0, 39, 1), 1);
        due("33 beyond", x.write(0, 40, 1), BEYOND);
        due("33 beyond", x.write(0, -1, 1), BEYOND);
        due("33 sheet", x.write(4, 0, 1), BEYOND);
        due("33 sheet", x.write(-1, 0, 1), BEYOND);
        due("32 a finding leaves it", x.sheet(0, 8, 41), BEYOND);
        due("33 as it was", x.write(0, 39, 1), 1);
        due("32 missing", x.sheet(0, 0, 40), 0);
        due("33 missing", x.write(0, 0, 0), MISSING);
        // load() shows a number if it is 0 to 999.
        int[][] written = {{8, 255, -1}, {8, 256 + 127, 127}, {8, 128, -1}, {16, 65535, -1}, {16, 65536 + 998, 998},
            {16, 32768, -1}, {32, -1, -1}, {32, 998, 998}, {32, 65536, -1}};
        for (int[] w : written) {
            x.sheet(0, w[0], 1);
            x.write(0, 0, w[1]);
            x.change(0, 6, 555);
            due("33 " + w[1] + " of " + w[0] + " bits", x.load(0), w[2] < 0 ? 0 : 1);
            due("33 " + w[1] + " of " + w[0] + " bits", x.of(0, 6), w[2] < 0 ? 555 : w[2]);
        }
        x.sheet(0, 8, 1);
        x.write(0, 0, 255);
        due("33 255 is -1", x.fits(0, 0), 600);
        x.write(0, 0, 254);
        due("33 254 is -2", x.fits(0, 0), 0);
        x.sheet(0, 8, 1);
        due("32 all 0", x.load(0) + x.of(0, 6), 1);
    }

    private static void p34Copy() {
        JudgedDeposits x = told("wall 1;wall 1;wall 1;wall 1;wall 1;wall 1");
        row(x, 0, 1, 2, 3, 4, 5, 6);
        due("34 missing", x.copy(0, 0, 1, 0, 1), MISSING);
        due("34 missing", x.copy(1, 0, 0, 0, 1), MISSING);
        due("34 sheet is asked first", x.copy(1, 0, 4, 0, 1), BEYOND);
        due("34 sheet", x.copy(-1, 0, 0, 0, 1), BEYOND);
        x.sheet(1, 16, 6);
        due("34 bits are asked before places", x.copy(0, 9, 1, 0, 1), KIND);
        x.sheet(1, 32, 4);
        due("34 from", x.copy(0, -1, 1, 0, 1), BEYOND);
        due("34 to", x.copy(0, 0, 1, -1, 1), BEYOND);
        due("34 n", x.copy(0, 0, 1, 0, -1), BEYOND);
        due("34 too many here", x.copy(0, 3, 1, 0, 4), BEYOND);
        due("34 too many there", x.copy(0, 0, 1, 1, 4), BEYOND);
        due("34 far", x.copy(0, Integer.MAX_VALUE, 1, 0, 1), BEYOND);
        due("34 far", x.copy(0, 1, 1, 0, Integer.MAX_VALUE), BEYOND);
        due("34 far", x.copy(0, Integer.MAX_VALUE, 1, Integer.MAX_VALUE, Integer.MAX_VALUE), BEYOND);
        due("34 none", x.copy(0, 6, 1, 4, 0), 0);
        due("34 none, but beyond", x.copy(0, 7, 1, 4, 0), BEYOND);
        due("34 four", x.copy(0, 2, 1, 0, 4), 4);
        x.load(1);
        for (int i = 0; i < 4; i++) due("34 as copied", x.of(i, 6), i + 3);
        due("34 within one, on", x.copy(0, 0, 0, 1, 5), 5);
        x.load(0);
        int[] on = {1, 1, 2, 3, 4, 5};
        for (int i = 0; i < 6; i++) due("34 as they all were", x.of(i, 6), on[i]);
        due("34 within one, back", x.copy(0, 1, 0, 0, 5), 5);
        x.load(0);
        int[] back = {1, 2, 3, 4, 5, 5};
        for (int i = 0; i < 6; i++) due("34 as they all were", x.of(i, 6), back[i]);
    }

    private static void p35Load() {
        JudgedDeposits x = told("wall 1;wall 1;wall 1");
        due("35 sheet", x.load(4), BEYOND);
        due("35 sheet", x.load(-1), BEYOND);
        due("35 missing", x.load(3), MISSING);
        row(x, 3, 999, 0);
        x.change(1, 6, 7);
        x.change(2, 6, 8);
        due("35 two", x.load(3), 2);
        due("35 two", x.of(0, 6), 999);
        due("35 two", x.of(1, 6), 0);
        due("35 two", x.of(2, 6), 8);
        row(x, 3, 5, 1000, 6);
        due("35 it ends", x.load(3), 1);
        due("35 it ends", x.of(0, 6) * 100 + x.of(1, 6) * 10 + x.of(2, 6), 508);
        row(x, 3, -1, 4);
        due("35 it ends", x.load(3), 0);
        row(x, 3, 1, 2, 3, 4);
        due("35 no such thing", x.load(3), 3);
        row(x, 3);
        due("35 no number", x.load(3), 0);
    }

    private static void p36Judge() {
        JudgedDeposits x = told("wall 100 is 0 claim 30;wall 100 is 0 claim 40");
        due("36 sheet", x.judge(4), BEYOND);
        due("36 sheet", x.judge(-1), BEYOND);
        due("36 missing", x.judge(0), MISSING);
        row(x, 0, 30, 40);
        due("36 so", x.judge(0), 0);
        row(x, 0, 30);
        due("36 one", x.judge(0), 0);
        row(x, 0);
        due("36 none", x.judge(0), 0);
        row(x, 0, 31, 41);
        due("36 the first", x.judge(0), 1);
        row(x, 0, 30, 41);
        due("36 the second", x.judge(0), 2);
        row(x, 0, 30, 40, 0);
        due("36 no such thing", x.judge(0), 3);
        row(x, 0, -1, 40);
        due("36 -1 isn't any", x.judge(0), 1);
    }

    private static void p37to39Image() {
        JudgedDeposits x = told("wall 100 is 50 claim 30;home 500 3;blow 1 0 2");
        x.hold(3, 0);
        x.seed(77);
        x.go(5);
        String before = state(x);
        due("39 nothing to tear", x.tear(), 0);
        due("37 image", x.image(), 1);
        due("37 nothing changes", state(x).equals(before) ? 1 : 0, 1);
        text(x, "rug 1;home 1 1;blow 2 3 4;silent 1;offer 5 6");
        x.change(0, 6, 1);
        x.change(0, 0, 4);
        x.hold(3, -1);
        x.hold(4, 1);
        x.month(9);
        row(x, 2, 1, 2);
        x.undo();
        due("38 as it was", state(x).equals(before) ? 1 : 0, 1);
        due("38 spots", x.as(3, 2), 0);
        due("38 spots", x.as(4, 0), MISSING);
        due("38 sheets stay", x.write(2, 1, 1), 1);
        x.feed(65, 1);
        x.go(9);
        due("38 it stays kept", x.undo(), 5);
        due("38 the tape stays", x.wipe(), 1);
        due("38 as it was", state(x).equals(before) ? 1 : 0, 1);
        due("6 a thing is new again", x.thing(1, 1), 1);
        due("6 a thing is new again", x.of(1, 2) + x.of(1, 5) + x.of(1, 6), 0);
        x.go(1);
        x.image();
        x.go(2);
        due("38 the latest", x.undo(), 6);
        due("38 the latest", x.count(1), 2);
        int told = x.status(-1);
        x.go(0);
        x.undo();
        due("41 undo takes none back", x.status(-1), told + 1);
        due("39 tear", x.tear(), 1);
        due("39 tear", x.tear(), 0);
        due("38 none", x.undo(), NONE);
        due("38 nothing changes", x.count(0), 6);
    }

    private static void p40Count() {
        JudgedDeposits x = told("wall 100 is 50 claim 30;wall 100 is 50 claim 70;home 60 3");
        x.go(4);
        x.feed(0, 3);
        x.seed(-5);
        x.hold(0, 1);
        x.hold(9, 1);
        int[] count = {4, 2, 60, 60, 100, 3, -5, 2};
        for (int w = 0; w < 8; w++) due("40 count " + w, x.count(w), count[w]);
        due("40 beyond", x.count(8), BEYOND);
        due("40 beyond", x.count(-1), BEYOND);
    }

    private static void p41Status() {
        JudgedDeposits x = new JudgedDeposits();
        x.set(9, 0);
        for (int i = 0; i < 10; i++) x.thing(0, 0);
        x.hold(0, 0);
        for (int i = 0; i < 3; i++) x.as(0, 1);
        for (int i = 0; i < 4; i++) x.undo();
        for (int i = 0; i < 5; i++) x.load(0);
        for (int i = 0; i < 6; i++) x.sheet(0, 8, -1);
        int[] told = {1, 2, 3, 4, 0, 5, 6};
        for (int w = 0; w < 7; w++) due("41 status " + w, x.status(w), told[w]);
        due("41 all", x.status(-1), 21);
        due("41 another one", x.status(7), BEYOND);
        due("41 another one", x.status(-2), BEYOND);
        due("41 counted from then on", x.status(0), 3);
        due("41 counted from then on", x.status(-1), 23);
        x.text();
        due("41 a fault isn't one", x.status(-1), 23);
    }

    public static void main(String[] args) {
        p1NewObject();
        p2and3Home();
        p4and5List();
        p6Thing();
        p7Of();
        p7Award();
        p8Change();
        p9Hurts();
        p10Go();
        p10and24State();
        p11Now();
        p12and13Ahead();
        p14Worthless();
        p15Owing();
        p16Forgiven();
        p17ClaimFor();
        p18PeopleFor();
        p19KindFor();
        p20ForceFor();
        p21GiveUp();
        p22Fits();
        p23Kinds();
        p24and26Month();
        p25Odds();
        p27and28Tape();
        p29Text();
        p30and31Spots();
        p32and33Sheets();
        p34Copy();
        p35Load();
        p36Judge();
        p37to39Image();
        p40Count();
        p41Status();
        System.out.println(asked + " answers asked, " + wrong + " not as due");
        if (wrong != 0) System.exit(1);
    }
}
