// The sentences of 'Terms', one by one: the last value that is allowed and the first that isn't, the least and the most.
public final class TermsTest {
    private static final int BEYOND = Given.BEYOND;
    private static final int THING = 0, CARPET = 1, WALL = 2, PAINT = 3, MURAL = 4, LAMP = 5, RUG = 6;
    private static final int PEOPLE = 1, FIRST = 2, FINAL = 3, SILENT = 4, ASKS = 5, BIDS = 6;
    private static final int PRICE = 1, AGE = 2, WAS = 3, IS = 4, DAYS = 5, CLAIM = 6, LIVES = 7, WORTH = 8, FAIR = 9, WORSE = 10, AWARD = 11;
    private static final int AWARDED = 1, LEFT = 2;

    private static final Sentences doc = new Sentences();

    private static void says(String term, String sentence) {
        doc.of("Terms, " + term, sentence);
    }

    private static void due(String call, long got, long want) {
        doc.due(call, got, want);
    }

    // ---- findings

    private static void findings() {
        says("FINDINGS", "FINDINGS are answers below -1000000: LOW is -1000001; LOW BEYOND, LOW - 1 FULL, LOW - 2 KIND, LOW - 3 NONE, "
            + "LOW - 4 STATE, LOW - 5 MISSING, LOW - 6 SIZE (in longs, too).");
        JudgedDeposits x = Given.told("wall 1;wall 1;wall 1;wall 1;wall 1;wall 1;wall 1;wall 1");
        due("BEYOND: home(7)", x.home(7), -1000001);
        due("FULL: a ninth THING", x.thing(0, 0), -1000002);
        x.hold(0, 0);
        due("KIND: a WALL as a CARPET", x.as(0, CARPET), -1000003);
        due("NONE: undo() without an image", x.undo(), -1000004);
        due("MISSING: load(0)", x.load(0), -1000006);
        due("SIZE: sheet(0, 8, -1)", x.sheet(0, 8, -1), -1000007);
        due("in longs, too: odds(8, 0, 0, 0)", x.odds(8, 0, 0, 0), -1000001L);
        int[] found = {2, 1, 1, 1, 0, 1, 1};
        for (int f = 0; f < 7; f++) due("status(" + f + ")", x.status(f), found[f]);
        JudgedDeposits last = lastDay();
        due("STATE: go(1) on the last DAY", last.go(1), -1000005);
        due("status(4)", last.status(4), 1);

        says("FINDINGS", "What seed() and count(6) tell, z, may be any int: that is no finding.");
        x = new JudgedDeposits();
        int before = 1;
        for (int z : new int[] {-1000000, -1000001, -1000002, -1000007, -1000008, Integer.MIN_VALUE, Integer.MAX_VALUE, -1, 0}) {
            due("seed(" + z + ")", x.seed(z), before);
            due("count(6)", x.count(6), z);
            before = z;
        }
        due("status(-1)", x.status(-1), 0);
        for (int f = 0; f < 7; f++) due("status(" + f + ")", x.status(f), 0);
    }

    private static void orderOfFindings() {
        says("FINDINGS", "Each act tells its findings in the order in which they are asked (that of its words); one that answers a finding "
            + "changes nothing but status().");
        JudgedDeposits x = Given.told("wall 1;wall 1;wall 1;wall 1;wall 1;wall 1;wall 1;wall 1");
        due("thing: BEYOND, then FULL", x.thing(7, 1000), BEYOND);
        due("thing: FULL", x.thing(6, 999), Given.FULL);
        while (x.count(5) < 120) x.feed(0, 4);
        due("feed: BEYOND, then FULL", x.feed(0, 5), BEYOND);
        due("feed: FULL", x.feed(0, 4), Given.FULL);
        due("as: BEYOND, then MISSING", x.as(0, 7), BEYOND);
        due("as: MISSING", x.as(0, 6), Given.MISSING);
        due("sheet: BEYOND, then SIZE", x.sheet(4, 8, -1), BEYOND);
        due("sheet: BEYOND, then SIZE", x.sheet(0, 9, -1), BEYOND);
        due("sheet: SIZE", x.sheet(0, 8, -1), Given.SIZE);
        due("write: BEYOND, then MISSING", x.write(4, -1, 0), BEYOND);
        due("write: MISSING, then BEYOND", x.write(0, -1, 0), Given.MISSING);
        due("fits: BEYOND, then MISSING", x.fits(4, 8), BEYOND);
        due("fits: MISSING, then BEYOND", x.fits(0, 8), Given.MISSING);
        due("kinds: BEYOND, then MISSING", x.kinds(4, 8), BEYOND);
        due("kinds: MISSING, then BEYOND", x.kinds(0, 8), Given.MISSING);
        due("copy: BEYOND, then MISSING", x.copy(4, -1, 0, 0, 0), BEYOND);
        due("copy: BEYOND, then MISSING", x.copy(0, -1, 4, 0, 0), BEYOND);
        x.sheet(1, 8, 1);
        due("copy: MISSING, then KIND, BEYOND", x.copy(0, -1, 1, 0, 0), Given.MISSING);
        due("copy: MISSING, then KIND, BEYOND", x.copy(1, -1, 0, 0, 0), Given.MISSING);
        x.sheet(0, 16, 1);
        due("copy: KIND, then BEYOND", x.copy(0, -1, 1, 0, 0), Given.KIND);
        x.sheet(0, 8, 1);
        due("copy: BEYOND", x.copy(0, -1, 1, 0, 0), BEYOND);
        due("forceFor: BEYOND, then NONE", x.forceFor(0, 9999, 61), BEYOND);
        due("giveUp: BEYOND, then NONE", x.giveUp(9999, 21), BEYOND);
        due("worthless: BEYOND, then NONE", x.worthless(8, 0), BEYOND);
        due("owing: BEYOND, then NONE", x.owing(8, 999), BEYOND);
        JudgedDeposits last = lastDay();
        due("go: BEYOND, then STATE", last.go(61), BEYOND);
        due("month: BEYOND, then STATE", last.month(21), BEYOND);
        due("go: STATE", last.go(60), Given.STATE);
        due("month: STATE", last.month(20), Given.STATE);
    }

    private static void quotientsAndSets() {
        says("FINDINGS", "Quotients are cut.");
        JudgedDeposits x = Given.told("thing 7 aged 1;offer 1 2");
        due("WORTH: 7 * 499 / 500", x.of(0, WORTH), 6);
        due("half of 1 and 2", x.now(AWARDED), 1);
        x.change(0, DAYS, 39);
        due("FAIR: 39 / 20", x.of(0, FAIR), 1);

        says("FINDINGS", "Sets are told as bits; of several that would do the least number counts, where nothing else is told.");
        x = Given.told("wall 9 is 1 claim 9;wall 9;wall 9 is 1 claim 9;wall 9;wall 9;wall 9;wall 9;wall 9 is 1 claim 9");
        due("THINGS 0, 2 and 7", x.now(4), 1 + 4 + 128);
        due("THINGS 0, 2 and 7", x.now(5), 1 + 4 + 128);
        Given.row(x, 0, 8);
        due("all KINDS", x.kinds(0, 0), 127);
        due("kindFor() of a THING for which nothing is claimed", x.kindFor(1, 0), 0);
        due("peopleFor() where PEOPLE don't count", x.peopleFor(0), 1);
        due("claimFor() of what isn't WORSE", x.claimFor(1, 0), 0);
        due("forceFor() of nothing", x.forceFor(0, 0, 0), 0);
        due("giveUp() of one of three alike", x.giveUp(1000 - 16, 0), 1);
        due("giveUp() of two of three alike", x.giveUp(1000 - 8, 0), 1 + 4);
    }

    // ---- home

    private static void homeField(String sentence, int what, int least, int most, int first) {
        says("THE HOME", sentence);
        JudgedDeposits x = new JudgedDeposits();
        due("at first", x.home(what), first);
        due("below the least", x.set(what, least - 1), BEYOND);
        due("above the most", x.set(what, most + 1), BEYOND);
        due("as it was", x.home(what), first);
        due("the least", x.set(what, least), first);
        due("the least", x.home(what), least);
        due("the most", x.set(what, most), least);
        due("the most", x.home(what), most);
        due("below the least", x.set(what, least - 1), BEYOND);
        due("above the most", x.set(what, most + 1), BEYOND);
        due("the most", x.home(what), most);
        for (int v = least; v <= Math.min(most, 9); v++) x.set(what, v);
        due("all between", x.status(-1), 4);
    }

    private static void home() {
        homeField("THE HOME: DEPOSIT (0 to 9999; 1000 at first)", 0, 0, 9999, 1000);
        homeField("PEOPLE (1 to 9; 2 at first)", 1, 1, 9, 2);
        homeField("FIRST (whether there is a list of the beginning; 1, 0; 1 at first)", 2, 0, 1, 1);
        homeField("FINAL (one of the end; 1, 0; 1 at first)", 3, 0, 1, 1);
        homeField("SILENT (0 nobody, 1 the tenant, 2 the owner; 0 at first)", 4, 0, 2, 0);
        homeField("ASKS (the owner's offer; 0 to 9999; 0 at first)", 5, 0, 9999, 0);
        homeField("BIDS (the tenant's; 0 to 9999; 0 at first)", 6, 0, 9999, 0);

        says("THE HOME", "THE LIST: six BLOWS, one for DAY modulo 6: to a THING (0 to 7) of a FORCE (0 to 9), told as one number, 10 * THING "
            + "and FORCE together (0 at first).");
        JudgedDeposits x = new JudgedDeposits();
        for (int i = 0; i < 6; i++) due("at first, place " + i, x.listed(i), 0);
        due("a seventh", x.listed(6), BEYOND);
        due("one below", x.listed(-1), BEYOND);
        due("the least", x.blow(0, 0, 0), 0);
        due("the most", x.blow(5, 7, 9), 0);
        due("the most", x.listed(5), 79);
        due("THING alone", x.blow(5, 7, 0), 79);
        due("FORCE alone", x.blow(5, 0, 9), 70);
        due("FORCE alone", x.listed(5), 9);
        due("THING below", x.blow(5, -1, 9), BEYOND);
        due("THING above", x.blow(5, 8, 9), BEYOND);
        due("FORCE below", x.blow(5, 0, -1), BEYOND);
        due("FORCE above", x.blow(5, 0, 10), BEYOND);
        due("place below", x.blow(-1, 0, 0), BEYOND);
        due("place above", x.blow(6, 0, 0), BEYOND);
        due("as it was", x.listed(5), 9);
        for (int place = 0; place < 6; place++) {
            x = Given.told("wall 1");
            x.blow(place, 0, 1);
            for (int day = 0; day < 20; day++) {
                int before = x.of(0, IS);
                x.go(1);
                due("place " + place + " on DAY " + day, before - x.of(0, IS), (day % 6 == place ? 1 : 0) + (day % 10 == 9 ? 1 : 0));
            }
        }
    }

    // ---- things

    private static void thingField(String sentence, int what, int most, int first) {
        says("THINGS", sentence);
        JudgedDeposits x = Given.told("wall 7", "wall 8");
        due("at first", x.of(1, what), first);
        due("below 0", x.change(1, what, -1), BEYOND);
        due("above the most", x.change(1, what, most + 1), BEYOND);
        due("as it was", x.of(1, what), first);
        due("0", x.change(1, what, 0), first);
        due("0", x.of(1, what), 0);
        due("the most", x.change(1, what, most), 0);
        due("the most", x.of(1, what), most);
        due("above the most", x.change(1, what, most + 1), BEYOND);
        due("below 0", x.change(1, what, -1), BEYOND);
        due("the most", x.of(1, what), most);
        due("another THING stays", x.of(0, what), what == PRICE ? 7 : first);
    }

    private static void things() {
        says("THINGS", "THINGS 0, 1, .. (at most 8), of KINDS: 0 THING; 1 CARPET, 2 WALL, 5 LAMP under THING; 3 PAINT under WALL; 4 MURAL under "
            + "PAINT; 6 RUG under CARPET;");
        JudgedDeposits x = new JudgedDeposits();
        due("none", x.of(0, 0), BEYOND);
        int[] kinds = {THING, CARPET, WALL, PAINT, MURAL, LAMP, RUG, RUG};
        for (int t = 0; t < 8; t++) {
            due("THING " + t, x.thing(kinds[t], t), t);
            due("THING " + (t + 1) + " isn't there", x.of(t + 1, 0), BEYOND);
        }
        due("a ninth", x.thing(0, 0), Given.FULL);
        due("a ninth isn't there", x.of(8, 0), BEYOND);
        for (int t = 0; t < 8; t++) due("KIND of " + t, x.of(t, 0), kinds[t]);
        int[][] under = {{THING}, {CARPET, THING}, {WALL, THING}, {PAINT, WALL, THING}, {MURAL, PAINT, WALL, THING}, {LAMP, THING},
            {RUG, CARPET, THING}};
        for (int kind = 0; kind < 7; kind++) {
            x.hold(kind, kind);
            int above = 0;
            for (int k : under[kind]) above |= 1 << k;
            for (int k = 0; k < 7; k++) due(kind + " as " + k, x.as(kind, k), (above >> k & 1) == 1 ? kind : Given.KIND);
        }

        thingField("each with a PRICE (new; 0 to 999)", PRICE, 999, 8);
        JudgedDeposits y = new JudgedDeposits();
        due("thing() with PRICE -1", y.thing(0, -1), BEYOND);
        due("thing() with PRICE 1000", y.thing(0, 1000), BEYOND);
        due("thing() with PRICE 0", y.thing(0, 0), 0);
        due("thing() with PRICE 999", y.thing(0, 999), 1);
        thingField("an AGE (DAYS; 0 to 9999; 0 at first)", AGE, 9999, 0);
        thingField("WAS (its state by the list of the beginning; 0 to 99; 99 at first)", WAS, 99, 99);
        thingField("IS (its state now; 0 to 99; 99 at first)", IS, 99, 99);
        thingField("DAYS (since the beginning; 0 to 9999; 0 at first)", DAYS, 9999, 0);
        thingField("CLAIM (0 to 999; 0 at first)", CLAIM, 999, 0);
    }

    // ---- what the kinds do

    private static void lives(String sentence, int kind, int price, int want) {
        says("LIVES", sentence);
        due("kind " + kind + ", PRICE " + price, Given.one(kind, price).of(0, LIVES), want);
    }

    private static void worth(int kind, int price, int age, int want) {
        JudgedDeposits x = Given.one(kind, price);
        x.change(0, AGE, age);
        due("kind " + kind + ", PRICE " + price + ", AGE " + age, x.of(0, WORTH), want);
    }

    private static void fair(int kind, int days, int people, int want) {
        JudgedDeposits x = Given.one(kind, 100);
        x.change(0, DAYS, days);
        x.set(PEOPLE, people);
        due("kind " + kind + ", DAYS " + days + ", PEOPLE " + people, x.of(0, FAIR), want);
    }

    private static void hurts(int kind, int people, int... byForce) {
        JudgedDeposits x = Given.one(kind, 100);
        x.set(PEOPLE, people);
        for (int f = 0; f < 10; f++) due("kind " + kind + ", PEOPLE " + people + ", f " + f, x.hurts(0, f), byForce[f]);
    }

    private static void livesOfKinds() {
        lives("LIVES (DAYS): THING: 500.", THING, 999, 500);
        lives("CARPET: as a THING, less 100.", CARPET, 999, 400);
        lives("RUG: half (cut) of a CARPET.", RUG, 999, 200);
        lives("WALL: twice a THING.", WALL, 999, 1000);
        lives("PAINT: 200.", PAINT, 999, 200);
        lives("MURAL: as a PAINT, and PRICE.", MURAL, 0, 200);
        lives("MURAL: as a PAINT, and PRICE.", MURAL, 999, 1199);
        lives("LAMP: as a THING, less 200.", LAMP, 999, 300);
        for (int kind = 0; kind < 7; kind++) {
            if (kind == MURAL) continue;
            due("PRICE 0 leaves LIVES as they are", Given.one(kind, 0).of(0, LIVES), Given.one(kind, 500).of(0, LIVES));
        }
    }

    private static void worthOfKinds() {
        says("WORTH", "WORTH: THING: PRICE times what is left of its LIFE (LIVES less AGE, 0 at least) by LIVES (cut).");
        worth(THING, 999, 0, 999);
        worth(THING, 999, 1, 997);
        worth(THING, 999, 250, 499);
        worth(THING, 999, 499, 1);
        worth(THING, 999, 500, 0);
        worth(THING, 999, 501, 0);
        worth(THING, 999, 9999, 0);
        worth(THING, 499, 499, 0);
        worth(THING, 500, 499, 1);
        worth(THING, 0, 0, 0);
        says("WORTH", "CARPET: as a THING, 20 at least, but never more than PRICE.");
        worth(CARPET, 400, 0, 400);
        worth(CARPET, 400, 379, 21);
        worth(CARPET, 400, 380, 20);
        worth(CARPET, 400, 381, 20);
        worth(CARPET, 400, 400, 20);
        worth(CARPET, 400, 9999, 20);
        worth(CARPET, 21, 0, 21);
        worth(CARPET, 21, 400, 20);
        worth(CARPET, 20, 0, 20);
        worth(CARPET, 20, 400, 20);
        worth(CARPET, 19, 0, 19);
        worth(CARPET, 19, 9999, 19);
        worth(CARPET, 0, 0, 0);
        says("WORTH", "RUG: as a CARPET.");
        worth(RUG, 200, 0, 200);
        worth(RUG, 200, 179, 21);
        worth(RUG, 200, 180, 20);
        worth(RUG, 200, 181, 20);
        worth(RUG, 200, 9999, 20);
        worth(RUG, 19, 0, 19);
        worth(RUG, 19, 200, 19);
        says("WORTH", "WALL: PRICE.");
        worth(WALL, 999, 0, 999);
        worth(WALL, 999, 9999, 999);
        worth(WALL, 0, 0, 0);
        says("WORTH", "PAINT: half (cut) of PRICE times what is left of its LIFE by LIVES (cut).");
        worth(PAINT, 400, 0, 200);
        worth(PAINT, 400, 199, 1);
        worth(PAINT, 400, 200, 0);
        worth(PAINT, 400, 201, 0);
        worth(PAINT, 400, 9999, 0);
        worth(PAINT, 398, 199, 0);
        worth(PAINT, 999, 0, 499);
        worth(PAINT, 1, 0, 0);
        worth(PAINT, 2, 0, 1);
        worth(PAINT, 2, 1, 0);
        // Read from left to right: (PRICE / 2) * left / LIVES; NOTES.md tells of the other reading.
        worth(PAINT, 999, 1, 496);
        says("WORTH", "MURAL: as a PAINT, and 50.");
        worth(MURAL, 0, 0, 50);
        worth(MURAL, 0, 9999, 50);
        worth(MURAL, 999, 0, 549);
        worth(MURAL, 999, 1196, 51);
        worth(MURAL, 999, 1197, 50);
        worth(MURAL, 999, 1199, 50);
        worth(MURAL, 999, 9999, 50);
        says("WORTH", "LAMP: as a THING.");
        worth(LAMP, 300, 0, 300);
        worth(LAMP, 300, 299, 1);
        worth(LAMP, 300, 300, 0);
        worth(LAMP, 300, 301, 0);
        worth(LAMP, 299, 299, 0);
    }

    private static void fairOfKinds() {
        says("FAIR", "FAIR (how much worse it may be): THING: DAYS by 20 (cut).");
        fair(THING, 0, 9, 0);
        fair(THING, 19, 9, 0);
        fair(THING, 20, 9, 1);
        fair(THING, 9999, 9, 499);
        says("FAIR", "CARPET: as a THING, and PEOPLE.");
        fair(CARPET, 0, 1, 1);
        fair(CARPET, 0, 9, 9);
        fair(CARPET, 19, 9, 9);
        fair(CARPET, 20, 9, 10);
        fair(CARPET, 9999, 9, 508);
        says("FAIR", "RUG: twice a CARPET.");
        fair(RUG, 0, 1, 2);
        fair(RUG, 0, 9, 18);
        fair(RUG, 19, 9, 18);
        fair(RUG, 20, 9, 20);
        fair(RUG, 39, 9, 20);
        says("FAIR", "WALL: DAYS by 50 (cut).");
        fair(WALL, 0, 9, 0);
        fair(WALL, 49, 9, 0);
        fair(WALL, 50, 9, 1);
        fair(WALL, 9999, 9, 199);
        says("FAIR", "PAINT: as a WALL, and 3.");
        fair(PAINT, 0, 9, 3);
        fair(PAINT, 49, 9, 3);
        fair(PAINT, 50, 9, 4);
        says("FAIR", "MURAL: 0.");
        fair(MURAL, 0, 9, 0);
        fair(MURAL, 9999, 9, 0);
        says("FAIR", "LAMP: 99, if DAYS are 100 or more, else as a THING.");
        fair(LAMP, 0, 9, 0);
        fair(LAMP, 19, 9, 0);
        fair(LAMP, 20, 9, 1);
        fair(LAMP, 99, 9, 4);
        fair(LAMP, 100, 9, 99);
        fair(LAMP, 101, 9, 99);
        fair(LAMP, 9999, 9, 99);
    }

    private static void hurtsOfKinds() {
        says("HURTS", "HURTS (so much worse by a BLOW of FORCE f): THING: 5 times f.");
        hurts(THING, 9, 0, 5, 10, 15, 20, 25, 30, 35, 40, 45);
        says("HURTS", "CARPET: as a THING, and PEOPLE, if f is above 0.");
        hurts(CARPET, 1, 0, 6, 11, 16, 21, 26, 31, 36, 41, 46);
        hurts(CARPET, 9, 0, 14, 19, 24, 29, 34, 39, 44, 49, 54);
        says("HURTS", "RUG: as a CARPET.");
        hurts(RUG, 1, 0, 6, 11, 16, 21, 26, 31, 36, 41, 46);
        hurts(RUG, 9, 0, 14, 19, 24, 29, 34, 39, 44, 49, 54);
        says("HURTS", "WALL: f.");
        hurts(WALL, 9, 0, 1, 2, 3, 4, 5, 6, 7, 8, 9);
        says("HURTS", "PAINT: twice a WALL.");
        hurts(PAINT, 9, 0, 2, 4, 6, 8, 10, 12, 14, 16, 18);
        says("HURTS", "MURAL: as a PAINT, and 10, if f is above 0.");
        hurts(MURAL, 9, 0, 12, 14, 16, 18, 20, 22, 24, 26, 28);
        says("HURTS", "LAMP: 99, if f is 5 or more, else 0.");
        hurts(LAMP, 9, 0, 0, 0, 0, 0, 99, 99, 99, 99, 99);
    }

    // ---- awards

    private static void worse(int was, int is, int days, int want) {
        JudgedDeposits x = Given.one(THING, 100);
        x.change(0, WAS, was);
        x.change(0, IS, is);
        x.change(0, DAYS, days);
        due("WAS " + was + ", IS " + is + ", DAYS " + days, x.of(0, WORSE), want);
    }

    private static void award(JudgedDeposits x, int first, int last, int silent, int want) {
        x.set(FIRST, first);
        x.set(FINAL, last);
        x.set(SILENT, silent);
        due("FIRST " + first + ", FINAL " + last + ", SILENT " + silent, x.of(0, AWARD), want);
    }

    private static void claimed(JudgedDeposits x, int claim, int want) {
        x.change(0, CLAIM, claim);
        due("CLAIM " + claim + ", WORTH " + x.of(0, WORTH) + ", WORSE " + x.of(0, WORSE), x.of(0, AWARD), want);
    }

    private static void offered(JudgedDeposits x, int deposit, int asks, int bids, int want) {
        x.set(0, deposit);
        x.set(ASKS, asks);
        x.set(BIDS, bids);
        due("DEPOSIT " + deposit + ", ASKS " + asks + ", BIDS " + bids, x.now(AWARDED), want);
    }

    private static void awards() {
        says("WORSE", "WORSE (a THING): WAS less IS, less what is FAIR (0 at least).");
        worse(99, 98, 0, 1);
        worse(99, 99, 0, 0);
        worse(98, 99, 0, 0);
        worse(99, 97, 20, 1);
        worse(99, 98, 20, 0);
        worse(99, 99, 20, 0);
        worse(99, 0, 0, 99);
        worse(0, 99, 9999, 0);

        says("WORSE", "AWARD (for it): 0, if FIRST is 0, or FINAL is 0 and SILENT isn't 1, or SILENT is 2;");
        JudgedDeposits x = Given.told("wall 200 is 49 claim 150");
        award(x, 1, 1, 0, 100);
        award(x, 1, 1, 1, 150);
        award(x, 1, 1, 2, 0);
        award(x, 1, 0, 0, 0);
        award(x, 1, 0, 1, 150);
        award(x, 1, 0, 2, 0);
        for (int last = 0; last < 2; last++) for (int silent = 0; silent < 3; silent++) award(x, 0, last, silent, 0);

        says("WORSE", "else its CLAIM, if SILENT is 1, but no more than its WORTH;");
        award(x, 1, 1, 1, 150);
        claimed(x, 0, 0);
        claimed(x, 199, 199);
        claimed(x, 200, 200);
        claimed(x, 201, 200);
        claimed(x, 999, 200);
        x.change(0, IS, 99);
        claimed(x, 200, 200);
        x.change(0, IS, 49);

        says("WORSE", "else WORTH times WORSE by 100 (cut), but no more than its CLAIM (nor WORTH).");
        award(x, 1, 1, 0, 100);
        claimed(x, 0, 0);
        claimed(x, 99, 99);
        claimed(x, 100, 100);
        claimed(x, 101, 100);
        x.change(0, PRICE, 199);
        claimed(x, 999, 99);
        x.change(0, PRICE, 1);
        claimed(x, 999, 0);
        x.change(0, PRICE, 2);
        claimed(x, 999, 1);
        x.change(0, IS, 50);
        claimed(x, 999, 0);
        x.change(0, IS, 99);
        x.change(0, PRICE, 999);
        claimed(x, 999, 0);
        x.change(0, IS, 0);
        claimed(x, 999, 989);

        says("WORSE", "AWARDED: AWARDS of all together, but no more than DEPOSIT;");
        x = Given.told("wall 100 is 39 claim 999;wall 200 is 54 claim 999;wall 300");
        for (int deposit : new int[] {0, 1, 149, 150, 151, 9999}) offered(x, deposit, 0, 0, Math.min(150, deposit));
        due("no THINGS", new JudgedDeposits().now(AWARDED), 0);

        says("WORSE", "but if BIDS are as much as ASKS or more, and ASKS is above 0: half (cut) of both together, no more than DEPOSIT.");
        offered(x, 1000, 60, 59, 150);
        offered(x, 1000, 60, 60, 60);
        offered(x, 1000, 60, 61, 60);
        offered(x, 1000, 60, 62, 61);
        offered(x, 1000, 0, 0, 150);
        offered(x, 1000, 0, 9999, 150);
        offered(x, 1000, 1, 0, 150);
        offered(x, 1000, 1, 1, 1);
        offered(x, 1000, 1, 2, 1);
        offered(x, 1000, 1, 3, 2);
        offered(x, 9999, 9999, 9999, 9999);
        offered(x, 9999, 9999, 9998, 150);
        offered(x, 9998, 9999, 9999, 9998);
        offered(x, 300, 200, 399, 299);
        offered(x, 300, 200, 400, 300);
        offered(x, 300, 200, 402, 300);
        offered(x, 0, 1, 1, 0);
        x.set(FIRST, 0);
        offered(x, 1000, 60, 60, 60);

        says("WORSE", "LEFT: DEPOSIT less what is AWARDED.");
        x.set(FIRST, 1);
        for (int deposit : new int[] {0, 149, 150, 151, 9999}) {
            offered(x, deposit, 0, 0, Math.min(150, deposit));
            due("LEFT of " + deposit, x.now(LEFT), Math.max(0, deposit - 150));
        }
        offered(x, 1000, 300, 401, 350);
        due("LEFT with offers", x.now(LEFT), 650);
    }

    // ---- days, draws

    // More calls than the document speaks of: DAY comes so far in no other way.
    private static JudgedDeposits lastDay() {
        JudgedDeposits x = Given.told("thing 100;wall 100");
        for (int i = 0; i < 1666; i++) x.go(60);
        x.go(39);
        return x;
    }

    private static void days() {
        says("A DAY", "A DAY goes by: (1) the BLOW of THE LIST for DAY modulo 6, if there is that THING: IS is what it HURTS less (0 at least).");
        JudgedDeposits x = Given.told("wall 100;thing 100;blow 0 1 2;blow 1 2 9;blow 2 7 9");
        x.go(1);
        due("the THING of the BLOW", x.of(1, IS), 89);
        due("another THING", x.of(0, IS), 99);
        x.go(2);
        due("BLOWS to no THING", x.of(1, IS), 89);
        due("BLOWS to no THING", x.of(0, IS), 99);
        x.thing(THING, 1);
        x.go(6);
        due("that THING is there now", x.of(2, IS), 54);
        for (int is = 0; is <= 11; is++) {
            x = Given.told("thing 100;blow 0 0 1;blow 1 0 1");
            x.change(0, IS, is);
            x.go(1);
            due("IS " + is + " behind a DAY", x.of(0, IS), Math.max(0, is - 5));
            x.go(1);
            due("IS " + is + " behind two DAYS", x.of(0, IS), Math.max(0, is - 10));
        }
        x = Given.told("carpet 100;lamp 100;lamp 100;home 1000 9;blow 0 0 0;blow 1 0 1;blow 2 1 4;blow 3 2 5");
        x.go(1);
        due("a BLOW of FORCE 0", x.of(0, IS), 99);
        x.go(1);
        due("PEOPLE count", x.of(0, IS), 85);
        x.go(2);
        due("a LAMP and FORCE 4", x.of(1, IS), 99);
        due("a LAMP and FORCE 5", x.of(2, IS), 0);

        says("A DAY", "(2) AGE and DAYS of all are 1 more (9999 at most, both);");
        x = Given.told("wall 100;wall 100;wall 100;wall 100;wall 100;wall 100;wall 100;wall 100 aged 9998");
        x.change(0, AGE, 9999);
        x.change(0, DAYS, 9998);
        x.change(1, DAYS, 9999);
        int[] ages = {9999, 1, 1, 1, 1, 1, 1, 9999};
        int[] days = {9999, 9999, 1, 1, 1, 1, 1, 1};
        x.go(1);
        for (int t = 0; t < 8; t++) due("AGE of " + t, x.of(t, AGE), ages[t]);
        for (int t = 0; t < 8; t++) due("DAYS of " + t, x.of(t, DAYS), days[t]);
        x.go(1);
        due("AGE", x.of(7, AGE), 9999);
        due("AGE", x.of(6, AGE), 2);
        due("DAYS", x.of(0, DAYS), 9999);
        due("DAYS", x.of(7, DAYS), 2);

        says("A DAY", "if DAY leaves 9 by 10: IS of all is 1 less (0 at least).");
        x = Given.told("wall 1;wall 1 is 1;wall 1 is 0;wall 1;wall 1;wall 1;wall 1;wall 1 is 2");
        x.go(9);
        due("behind DAY 8", x.of(0, IS), 99);
        due("behind DAY 8", x.of(7, IS), 2);
        x.go(1);
        int[] is = {98, 0, 0, 98, 98, 98, 98, 1};
        for (int t = 0; t < 8; t++) due("behind DAY 9: " + t, x.of(t, IS), is[t]);
        x.go(9);
        due("behind DAY 18", x.of(0, IS), 98);
        x.go(1);
        due("behind DAY 19", x.of(0, IS), 97);
        due("behind DAY 19", x.of(1, IS), 0);
        due("behind DAY 19", x.of(7, IS), 0);
        x = Given.told("wall 1 is 3;wall 1 is 2;wall 1 is 1;blow 3 0 2;blow 4 0 0");
        x.blow(3, 0, 0);
        x.go(9);
        x.blow(3, 1, 2);
        x.go(1);
        due("no BLOW, and 1 less", x.of(0, IS), 2);
        due("a BLOW to 0, and 0 at least", x.of(1, IS), 0);

        says("A DAY", "DAY is one more (99999 at most).");
        x = Given.told("thing 100");
        due("DAY", x.count(0), 0);
        x.go(1);
        due("DAY", x.count(0), 1);
        x.go(60);
        due("DAY", x.count(0), 61);
        x = lastDay();
        due("DAY", x.count(0), 99999);
        x.change(0, IS, 99);
        x.blow(3, 0, 1);
        x.blow(4, 0, 9);
        due("a look ahead: each further DAY is 99999, which leaves 3 by 6 and 9 by 10", x.ahead(0, IS, 3), 81);
        due("DAY", x.count(0), 99999);
    }

    private static void draws() {
        says("DRAWS", "DRAWS: z is told (1 at first); each makes it z * 1103515245 + 12345 (an int), and gives z >>> 8.");
        JudgedDeposits x = new JudgedDeposits();
        due("z at first", x.count(6), 1);
        due("month(1)", x.month(1), 0);
        due("z, 2524885223 wrapped around", x.count(6), -1770082073);
        // 1103527590 >>> 8 is 4310654, 2524885223 >>> 8 is 9862832.
        due("the BLOW", x.listed(0), 62);
        x.month(1);
        due("z, 3295386429 wrapped around", x.count(6), -999580867);
        // 662824084 >>> 8 is 2589156, 3295386429 >>> 8 is 12872603.
        due("the BLOW", x.listed(1), 43);
        int[] seeds = {0, -1, Integer.MAX_VALUE, Integer.MIN_VALUE, BEYOND};
        for (int seed : seeds) {
            x = new JudgedDeposits();
            x.seed(seed);
            x.month(1);
            long first = (seed * 1103515245L + 12345L) & 0xffffffffL;
            long second = (first * 1103515245L + 12345L) & 0xffffffffL;
            due("z behind two draws from " + seed, x.count(6), (int) second);
            due("the BLOW drawn from " + seed, x.listed(0), 10 * (first / 256 % 8) + second / 256 % 10);
        }
    }

    // ---- texts

    // A text that is read, and how many ITEMS it has.
    private static JudgedDeposits items(String text, int want) {
        JudgedDeposits x = new JudgedDeposits();
        due('"' + text + '"', Given.text(x, text), want);
        return x;
    }

    private static void fault(String text, int place) {
        JudgedDeposits x = new JudgedDeposits();
        due('"' + text + '"', Given.text(x, text), -1 - place);
    }

    private static void tokens() {
        says("A TEXT", "A TEXT is read from THE TAPE (bytes, at most 120).");
        String full = " ".repeat(114) + "wall 7";
        due("the price behind 120 bytes", items(full, 1).of(0, PRICE), 7);
        fault(" ".repeat(120), 120);
        fault(" ".repeat(119) + "w", 119);
        fault(" ".repeat(116) + "wall", 120);
        JudgedDeposits x = new JudgedDeposits();
        Given.feed(x, full);
        due("a 121st byte", x.feed('7', 1), Given.FULL);
        due("so many bytes", x.count(5), 120);
        due("as it was", x.text(), 1);
        due("as it was", x.of(0, PRICE), 7);

        says("A TEXT", "TOKENS, each as long as can be: WORDS (letters a to z), NUMBERS (digits, 9999 at most), SIGN ; ; blanks may stand between.");
        x = items("wall7aged8is9claim10;wall11", 2);
        due("no blanks", x.of(0, CLAIM) * 100 + x.of(1, PRICE), 1011);
        x = items("   wall   7   aged   8   is   9   claim   10   ;   wall   11   ", 2);
        due("many blanks", x.of(0, CLAIM) * 100 + x.of(1, PRICE), 1011);
        fault("wallis 1", 0);
        fault("wall 1isclaim 5", 6);
        fault("home 12", 7);
        fault("home 1 2 3", 9);
        fault("wa ll 1", 0);
        fault("home 1 2;;home 1 2", 9);
        fault("wal` 1", 0);
        fault("wall`1", 4);
        fault("wall{1", 4);
        fault("`wall 1", 0);
        fault("{wall 1", 0);
        fault("wall /1", 5);
        fault("wall :1", 5);
        fault("wall 1/", 6);
        fault("wall 1:", 6);
        fault("wall 1<", 6);
        fault("WALL 1", 0);
        fault("walla 1", 0);
        fault("wallz 1", 0);
        fault("a", 0);
        fault("z", 0);
        fault("wall 1z", 6);
        fault("wall\t1", 4);
        fault("wall\n1", 4);
        fault("wall" + (char) 0 + "1", 4);
        fault("wall" + (char) 160 + "1", 4);
        fault("wall " + (char) 177, 5);
        fault((char) 247 + "all 1", 0);
        due("9999", items("home 9999 9", 1).home(0), 9999);
        fault("home 10000 9", 5);
        fault("home 65536 9", 5);
        fault("home 4294967296 9", 5);
        fault("home 4294967297 9", 5);
        fault("home 18446744073709551617 9", 5);
        fault("home " + "9".repeat(100) + " 9", 5);
        due("0s before a NUMBER", items("home " + "0".repeat(100) + "77 9", 1).home(0), 77);
    }

    private static void itemsOfTexts() {
        says("A TEXT", "TEXT: ITEM { ; ITEM }.");
        items("rug 1", 1);
        items("rug 1;rug 1", 2);
        // 119 bytes: there is no room for one more.
        items("silent0;".repeat(14) + "silent0", 15);
        items("rug1;".repeat(8) + "silent0;".repeat(9) + "silent0", 18);
        fault("", 0);
        fault(";", 0);
        fault("rug 1;", 6);
        fault(";rug 1", 0);
        fault("rug 1 rug 1", 6);

        says("A TEXT", "ITEM: thing, carpet, wall, paint, mural, lamp or rug, a NUMBER (PRICE, 0 to 999), perhaps aged and a NUMBER (0 to 9999), "
            + "perhaps is and a NUMBER (0 to 99), perhaps claim and a NUMBER (0 to 999): a new one;");
        String[] words = {"thing", "carpet", "wall", "paint", "mural", "lamp", "rug"};
        for (int kind = 0; kind < 7; kind++) {
            JudgedDeposits x = items(words[kind] + " 0 aged 0 is 0 claim 0", 1);
            due("how many THINGS", x.count(1), 1);
            int[] least = {kind, 0, 0, 99, 0, 0, 0};
            for (int w = 0; w < 7; w++) due("least " + w, x.of(0, w), least[w]);
            x = items(words[kind] + " 999 aged 9999 is 99 claim 999", 1);
            int[] most = {kind, 999, 9999, 99, 99, 0, 999};
            for (int w = 0; w < 7; w++) due("most " + w, x.of(0, w), most[w]);
            for (int set = 0; set < 8; set++) {
                x = items(words[kind] + " 5" + ((set & 1) == 1 ? " aged 6" : "") + ((set & 2) == 2 ? " is 7" : "")
                    + ((set & 4) == 4 ? " claim 8" : ""), 1);
                int[] want = {kind, 5, (set & 1) == 1 ? 6 : 0, 99, (set & 2) == 2 ? 7 : 99, 0, (set & 4) == 4 ? 8 : 0};
                for (int w = 0; w < 7; w++) due("of(0, " + w + ")", x.of(0, w), want[w]);
            }
            int at = words[kind].length() + 1;
            fault(words[kind] + " 1000", at);
            fault(words[kind] + " 1 aged 10000", at + 7);
            fault(words[kind] + " 1 is 100", at + 5);
            fault(words[kind] + " 1 claim 1000", at + 8);
            fault(words[kind].substring(1) + " 1", 0);
            fault(words[kind] + "s 1", 0);
        }
        fault("wall 1 is 1 aged 1", 12);
        fault("wall 1 claim 1 aged 1", 15);
        fault("wall 1 claim 1 is 1", 15);
        fault("wall 1 aged 1 aged 1", 14);
        fault("wall 1 is 1 is 1", 12);
        fault("wall 1 claim 1 claim 1", 15);
        fault("wall aged 1", 5);
        fault("wall 1 was 1", 7);

        says("A TEXT", "home, two NUMBERS (DEPOSIT, 0 to 9999; PEOPLE, 1 to 9);");
        JudgedDeposits x = items("home 0 1", 1);
        due("the least", x.home(0) * 10 + x.home(1), 1);
        x = items("home 9999 9", 1);
        due("the most", x.home(0) * 10 + x.home(1), 99999);
        fault("home 10000 1", 5);
        fault("home 1 0", 7);
        fault("home 1 10", 7);

        says("A TEXT", "blow, three NUMBERS (a place of THE LIST, 0 to 5, 0 to 7, 0 to 9);");
        x = items("blow 0 7 9;blow 5 0 9;blow 1 7 0", 3);
        due("place 0", x.listed(0), 79);
        due("place 5", x.listed(5), 9);
        due("place 1", x.listed(1), 70);
        due("the least", items("blow 0 7 9;blow 0 0 0", 2).listed(0), 0);
        fault("blow 6 0 0", 5);
        fault("blow 0 8 0", 7);
        fault("blow 0 0 10", 9);

        says("A TEXT", "offer, two NUMBERS (ASKS, BIDS, 0 to 9999 each);");
        x = items("offer 9999 0", 1);
        due("ASKS", x.home(ASKS), 9999);
        due("BIDS", x.home(BIDS), 0);
        x = items("offer 1 1;offer 0 9999", 2);
        due("ASKS", x.home(ASKS), 0);
        due("BIDS", x.home(BIDS), 9999);
        fault("offer 10000 0", 6);
        fault("offer 0 10000", 8);

        says("A TEXT", "silent, a NUMBER (0 to 2).");
        for (int silent = 0; silent < 3; silent++) due("SILENT", items("silent 1;silent " + silent, 2).home(SILENT), silent);
        fault("silent 3", 7);
    }

    // The WORD with one letter changed, one less, one more.
    private static void anotherWord(String before, String word, String behind) {
        for (int i = 0; i < word.length(); i++) {
            String other = (char) (word.charAt(i) == 'z' ? 'a' : word.charAt(i) + 1) + word.substring(i + 1);
            fault(before + word.substring(0, i) + other + behind, before.length());
            fault(before + word.substring(0, i) + word.substring(i + 1) + behind, before.length());
        }
        for (char c : new char[] {'a', 'z'}) {
            fault(before + word + c + behind, before.length());
            fault(before + c + word + behind, before.length());
        }
    }

    private static void faults() {
        says("A TEXT", "FAULT: the place (from 0) of the first byte of the first TOKEN that can't stand there (a NUMBER that isn't as told, another "
            + "WORD, a byte that begins no TOKEN, the WORD of a 9th THING: its own), or how many bytes there are if it ends too early.");
        fault("  1000", 2);
        fault("  wall   1000", 9);
        fault("home 1 1;  wall 1 is 100;wall 1 is 1000", 21);
        fault("  walls 1", 2);
        String[] begins = {"thing", "carpet", "wall", "paint", "mural", "lamp", "rug", "home", "blow", "offer", "silent"};
        for (String word : begins) anotherWord("", word, " 1 1 1");
        for (String word : new String[] {"aged", "is", "claim"}) anotherWord("wall 1 ", word, " 1");
        fault("wall 1  ages 1", 8);
        fault("aged 1", 0);
        fault("is 1", 0);
        fault("claim 1", 0);
        fault("wall 1 home 1 1", 7);
        fault("home home", 5);
        fault("home 1 home", 7);
        fault("blow blow", 5);
        fault("blow 1 2 blow", 9);
        fault("offer 1 ;", 8);
        fault("silent ;", 7);
        fault("silent -1", 7);
        fault("wall 1 #", 7);
        fault("wall 1; #", 8);
        fault("wall 1 wall #", 7);
        fault("wall 1000 #", 5);
        String eight = "rug1;rug1;rug1;rug1;rug1;rug1;rug1;rug1";
        items(eight, 8);
        fault(eight + ";rug1", 40);
        fault(eight + ";  rug1000", 42);
        fault(eight + ";rug", 40);
        fault(eight + ";thing 1", 40);
        fault(eight + ";rugs 1", 40);
        items(eight + ";home 1 1", 9);
        fault(eight + ";home 1 1; lamp 1", 50);
        JudgedDeposits x = Given.told("rug 1;rug 1");
        due("a 9th THING with two before the text", Given.text(x, "rug1;rug1;rug1;rug1;rug1;rug1;rug1"), -31);
        String[] early = {"", " ", "wall", "wall ", "wall 1 aged", "wall 1 is ", "wall 1 claim", "wall 1 ; ", "home", "home 1", "blow", "blow 1",
            "blow 1 2", "blow 1 2  ", "offer", "offer 1", "silent", "wall 1;silent "};
        for (String text : early) fault(text, text.length());
        fault(" ".repeat(119) + "#", 119);
        fault("home 1 1;".repeat(13) + "hom", 117);
        fault("home 1 1;".repeat(13) + "  ;", 119);
        fault("home 1 1;".repeat(12) + "home 1 1   ;", 120);
    }

    // ---- spots, sheets

    private static void spotsAndSheets() {
        says("SPOTS", "SPOTS 0 to 9 hold a THING or nothing (at first).");
        JudgedDeposits x = Given.told("rug 1;rug 1");
        for (int spot = 0; spot < 10; spot++) {
            due("nothing at first: " + spot, x.as(spot, 0), Given.MISSING);
            due("hold(" + spot + ", 1)", x.hold(spot, 1), 1);
            due("as(" + spot + ", 0)", x.as(spot, 0), 1);
        }
        due("SPOTS that hold something", x.count(7), 10);
        due("hold(-1, 0)", x.hold(-1, 0), BEYOND);
        due("hold(10, 0)", x.hold(10, 0), BEYOND);
        due("as(-1, 0)", x.as(-1, 0), BEYOND);
        due("as(10, 0)", x.as(10, 0), BEYOND);

        says("SPOTS", "SHEETS 0 to 3: rows of at most 40 numbers of 8, 16 or 32 bits (told with their sign: of 8 bits 255 is -1), or MISSING (at "
            + "first).");
        for (int s = 0; s < 4; s++) {
            due("MISSING at first: " + s, x.load(s), Given.MISSING);
            for (int bits : new int[] {8, 16, 32}) {
                due("sheet(" + s + ", " + bits + ", 40)", x.sheet(s, bits, 40), 40);
                due("the last number", x.write(s, 39, 0), 1);
                due("a 41st", x.write(s, 40, 0), BEYOND);
                due("sheet(" + s + ", " + bits + ", 41)", x.sheet(s, bits, 41), BEYOND);
            }
            due("sheet(" + s + ", 0, 40)", x.sheet(s, 0, 40), 0);
            due("MISSING: " + s, x.load(s), Given.MISSING);
        }
        for (int s : new int[] {-1, 4}) due("sheet " + s, x.sheet(s, 8, 1), BEYOND);
        for (int bits : new int[] {-8, -1, 1, 7, 9, 15, 17, 24, 31, 33, 64}) due("bits " + bits, x.sheet(0, bits, 1), BEYOND);
        sign(8, 127, 127);
        sign(8, 128, -128);
        sign(8, 255, -1);
        sign(8, 256, 0);
        sign(8, 511, -1);
        sign(8, -129, 127);
        sign(16, 127, 127);
        sign(16, 128, 128);
        sign(16, 255, 255);
        sign(16, 999, 999);
        sign(16, 1000, 1000);
        sign(16, 32768, -32768);
        sign(16, 65535, -1);
        sign(16, 65536, 0);
        sign(16, 65536 + 999, 999);
        sign(16, 131071, -1);
        sign(32, 65535, 65535);
        sign(32, 65536, 65536);
        sign(32, 65536 + 999, 65536 + 999);
        sign(32, Integer.MAX_VALUE, Integer.MAX_VALUE);
        sign(32, Integer.MIN_VALUE, Integer.MIN_VALUE);
        sign(32, -1, -1);
    }

    // What a number is shows in three ways: as a CLAIM (0 to 999), as a told award (-1: any), as an AWARD.
    private static void sign(int bits, int written, int told) {
        JudgedDeposits x = Given.told("wall 999 is 0 claim 500");
        Given.row(x, 0, bits, written);
        String what = written + " of " + bits + " bits";
        due("told awards: " + what, x.fits(0, 0), told == -1 || told == 500 ? 600 : 0);
        due("load(): " + what, x.load(0), told >= 0 && told <= 999 ? 1 : 0);
        due("CLAIM: " + what, x.of(0, CLAIM), told >= 0 && told <= 999 ? told : 500);
        x.change(0, CLAIM, Math.max(0, Math.min(999, told)));
        due("judge(): " + what, x.judge(0), told >= 0 && told <= 989 ? 0 : 1);
    }

    public static void main(String[] args) {
        findings();
        orderOfFindings();
        quotientsAndSets();
        home();
        things();
        livesOfKinds();
        worthOfKinds();
        fairOfKinds();
        hurtsOfKinds();
        awards();
        days();
        draws();
        tokens();
        itemsOfTexts();
        faults();
        spotsAndSheets();
        doc.allNamed("Terms");
        doc.end();
    }
}
