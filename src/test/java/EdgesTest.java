// The sentences of the promises, one by one: what they say at their edges, on both sides.
public final class EdgesTest {
    private static final int BEYOND = Given.BEYOND, FULL = Given.FULL, KIND = Given.KIND, NONE = Given.NONE, STATE = Given.STATE,
        MISSING = Given.MISSING, SIZE = Given.SIZE;
    private static final int THING = 0, CARPET = 1, WALL = 2, PAINT = 3, MURAL = 4, LAMP = 5, RUG = 6;
    private static final int PEOPLE = 1, FIRST = 2, FINAL = 3, SILENT = 4, ASKS = 5, BIDS = 6;
    private static final int PRICE = 1, AGE = 2, WAS = 3, IS = 4, DAYS = 5, CLAIM = 6, LIVES = 7, WORTH = 8, FAIR = 9, WORSE = 10, AWARD = 11;
    private static final int MIN = Integer.MIN_VALUE, MAX = Integer.MAX_VALUE;

    private static final Sentences doc = new Sentences();

    private static void says(int promise, String sentence) {
        doc.of("Promise " + promise, sentence);
    }

    private static void due(String call, long got, long want) {
        doc.due(call, got, want);
    }

    // ---- home, things

    private static void newObject() {
        says(1, "All as at first; no THINGS; THE TAPE is empty, no image is kept.");
        Given.told("rug 1;home 1 1;offer 1 1").image();
        JudgedDeposits x = new JudgedDeposits();
        int[] home = {1000, 2, 1, 1, 0, 0, 0};
        for (int what = 0; what < 7; what++) due("home(" + what + ")", x.home(what), home[what]);
        for (int i = 0; i < 6; i++) due("listed(" + i + ")", x.listed(i), 0);
        int[] count = {0, 0, 1000, 0, 0, 0, 1, 0};
        for (int what = 0; what < 8; what++) due("count(" + what + ")", x.count(what), count[what]);
        int[] now = {0, 0, 1000, 0, 0, 0, 0, 0};
        for (int what = 0; what < 8; what++) due("now(" + what + ")", x.now(what), now[what]);
        due("status(-1)", x.status(-1), 0);
        due("of(0, 0)", x.of(0, 0), BEYOND);
        for (int s = 0; s < 4; s++) due("load(" + s + ")", x.load(s), MISSING);
        for (int spot = 0; spot < 10; spot++) due("as(" + spot + ", 0)", x.as(spot, 0), MISSING);
        due("wipe()", x.wipe(), 0);
        due("tear()", x.tear(), 0);
        due("undo()", x.undo(), NONE);
    }

    private static void setAndHome() {
        int[] least = {0, 1, 0, 0, 0, 0, 0};
        int[] most = {9999, 9, 1, 1, 2, 9999, 9999};
        int[] first = {1000, 2, 1, 1, 0, 0, 0};
        says(2, "DEPOSIT (what 0), PEOPLE (1), FIRST (2), FINAL (3), SILENT (4), ASKS (5), BIDS (6) becomes v: what it was.");
        JudgedDeposits x = new JudgedDeposits();
        for (int what = 0; what < 7; what++) {
            due("what it was at first: " + what, x.set(what, most[what]), first[what]);
            due("the most: " + what, x.set(what, least[what]), most[what]);
            due("the least: " + what, x.set(what, most[what]), least[what]);
            for (int other = 0; other < 7; other++) due("home(" + other + ")", x.home(other), other <= what ? most[other] : first[other]);
        }
        says(2, "BEYOND.");
        for (int what : new int[] {-1, 7, MIN, MAX}) due("set(" + what + ", 1)", x.set(what, 1), BEYOND);
        for (int what = 0; what < 7; what++) {
            for (int v : new int[] {least[what] - 1, most[what] + 1, MIN, MAX}) due("set(" + what + ", " + v + ")", x.set(what, v), BEYOND);
            due("as it was", x.home(what), most[what]);
        }
        says(3, "Of THE HOME: what 0 to 6 as in set().");
        for (int what = 0; what < 7; what++) due("home(" + what + ")", new JudgedDeposits().home(what), first[what]);
        says(3, "BEYOND.");
        for (int what : new int[] {-1, 7, MIN, MAX}) due("home(" + what + ")", x.home(what), BEYOND);
    }

    private static void blowAndListed() {
        says(4, "THE LIST tells in place i (0 to 5) a BLOW to a THING (0 to 7) of a FORCE (0 to 9): which it was (10 * THING and FORCE).");
        JudgedDeposits x = new JudgedDeposits();
        for (int i = 0; i < 6; i++) {
            due("at first", x.blow(i, i + 2, i + 4), 0);
            due("which it was", x.blow(i, 7 - i, 9 - i), 10 * (i + 2) + i + 4);
        }
        due("the most", x.blow(0, 7, 9), 79);
        due("a THING that isn't there", x.count(1), 0);
        due("the least", x.blow(0, 0, 0), 79);
        due("the least", x.blow(0, 0, 0), 0);
        says(4, "BEYOND.");
        for (int bad : new int[] {-1, 6, MIN, MAX}) due("place " + bad, x.blow(bad, 0, 0), BEYOND);
        for (int bad : new int[] {-1, 8, MIN, MAX}) due("THING " + bad, x.blow(1, bad, 0), BEYOND);
        for (int bad : new int[] {-1, 10, MIN, MAX}) due("FORCE " + bad, x.blow(1, 0, bad), BEYOND);
        says(5, "The BLOW in a place of THE LIST.");
        due("listed(0)", x.listed(0), 0);
        for (int i = 1; i < 6; i++) due("listed(" + i + ")", x.listed(i), 10 * (7 - i) + 9 - i);
        says(5, "BEYOND.");
        for (int bad : new int[] {-1, 6, MIN, MAX}) due("listed(" + bad + ")", x.listed(bad), BEYOND);
    }

    private static void thingOfChangeHurts() {
        says(6, "A new THING of a PRICE: its number.");
        JudgedDeposits x = new JudgedDeposits();
        int[] prices = {0, 999, 1, 998, 500, 20, 7, 0};
        for (int t = 0; t < 8; t++) {
            due("thing()", x.thing(t % 7, prices[t]), t);
            int[] is = {t % 7, prices[t], 0, 99, 99, 0, 0};
            for (int what = 0; what < 7; what++) due("of(" + t + ", " + what + ")", x.of(t, what), is[what]);
        }
        JudgedDeposits y = new JudgedDeposits();
        y.image();
        for (int again = 0; again < 2; again++) {
            for (int t = 0; t < 8; t++) {
                y.thing(5, 5);
                for (int what = 0; what < 7; what++) due("new where another was: of(" + t + ", " + what + ")", y.of(t, what), new int[] {5, 5, 0, 99, 99, 0, 0}[what]);
                for (int what = 0; what < 7; what++) y.change(t, what, 6);
            }
            y.undo();
        }
        says(6, "BEYOND.");
        y = new JudgedDeposits();
        for (int bad : new int[] {-1, 7, MIN, MAX}) due("kind " + bad, y.thing(bad, 0), BEYOND);
        for (int bad : new int[] {-1, 1000, MIN, MAX}) due("PRICE " + bad, y.thing(0, bad), BEYOND);
        due("no THING", y.count(1), 0);
        says(6, "FULL.");
        due("a ninth", x.thing(0, 0), FULL);
        due("a ninth of another kind", x.thing(6, 999), FULL);
        due("eight", x.count(1), 8);
        x.image();
        x.undo();
        due("a ninth yet", x.thing(0, 0), FULL);

        says(7, "Of a THING: what 0 KIND, 1 PRICE, 2 AGE, 3 WAS, 4 IS, 5 DAYS, 6 CLAIM, 7 LIVES, 8 WORTH, 9 FAIR, 10 WORSE, 11 AWARD.");
        y = Given.told("rug 1;carpet 400 aged 100 is 50 claim 77");
        y.change(1, WAS, 90);
        y.change(1, DAYS, 40);
        int[] of = {CARPET, 400, 100, 90, 50, 40, 77, 400, 300, 4, 36, 77};
        for (int what = 0; what < 12; what++) due("of(1, " + what + ")", y.of(1, what), of[what]);
        says(7, "BEYOND.");
        for (int bad : new int[] {-1, 12, MIN, MAX}) due("of(0, " + bad + ")", y.of(0, bad), BEYOND);
        for (int bad : new int[] {-1, 2, 8, MIN, MAX}) due("of(" + bad + ", 0)", y.of(bad, 0), BEYOND);

        says(8, "KIND (what 0), PRICE (1), AGE (2), WAS (3), IS (4), DAYS (5), CLAIM (6) of a THING becomes v: what it was.");
        int[] most = {6, 999, 9999, 99, 99, 9999, 999};
        int[] was = {RUG, 1, 0, 99, 99, 0, 0};
        for (int what = 0; what < 7; what++) {
            due("to 0: " + what, y.change(0, what, 0), was[what]);
            due("to the most: " + what, y.change(0, what, most[what]), 0);
            due("the most: " + what, y.of(0, what), most[what]);
        }
        for (int what = 0; what < 7; what++) due("another THING stays: " + what, y.of(1, what), of[what]);
        says(8, "BEYOND.");
        for (int what = 0; what < 7; what++) {
            for (int bad : new int[] {-1, most[what] + 1, MIN, MAX}) due("change(0, " + what + ", " + bad + ")", y.change(0, what, bad), BEYOND);
            due("as it was", y.of(0, what), most[what]);
        }
        for (int bad : new int[] {-1, 7, 11, MIN, MAX}) due("change(0, " + bad + ", 0)", y.change(0, bad, 0), BEYOND);
        for (int bad : new int[] {-1, 2, 8, MIN, MAX}) due("change(" + bad + ", 0, 0)", y.change(bad, 0, 0), BEYOND);

        says(9, "What a THING HURTS by a FORCE (0 to 9).");
        y = Given.told("thing 1;lamp 1;rug 1");
        due("hurts(0, 0)", y.hurts(0, 0), 0);
        due("hurts(0, 9)", y.hurts(0, 9), 45);
        due("hurts(1, 4)", y.hurts(1, 4), 0);
        due("hurts(1, 5)", y.hurts(1, 5), 99);
        due("hurts(2, 0)", y.hurts(2, 0), 0);
        due("hurts(2, 1)", y.hurts(2, 1), 7);
        due("nothing is hurt", y.of(1, IS), 99);
        says(9, "BEYOND.");
        for (int bad : new int[] {-1, 10, MIN, MAX}) due("hurts(0, " + bad + ")", y.hurts(0, bad), BEYOND);
        for (int bad : new int[] {-1, 3, 8, MIN, MAX}) due("hurts(" + bad + ", 0)", y.hurts(bad, 0), BEYOND);
    }

    // ---- days

    private static void goAndNow() {
        says(10, "n DAYS (1 to 60): what is AWARDED then.");
        // A MURAL of PRICE 0 is WORTH 50, nothing is FAIR: 1 less of IS for each tenth DAY is half a coin more.
        JudgedDeposits x = Given.told("mural 0 claim 999");
        due("go(1)", x.go(1), 0);
        due("DAY", x.count(0), 1);
        due("go(60)", x.go(60), 3);
        due("DAY", x.count(0), 61);
        due("IS", x.of(0, IS), 93);
        due("AGE", x.of(0, AGE), 61);
        due("DAYS", x.of(0, DAYS), 61);
        x.set(0, 2);
        due("no more than DEPOSIT", x.go(1), 2);
        x.set(ASKS, 1);
        x.set(BIDS, 1);
        due("offers meet", x.go(1), 1);
        due("no THINGS", new JudgedDeposits().go(60), 0);
        says(10, "BEYOND.");
        for (int bad : new int[] {0, -1, 61, MIN, MAX}) due("go(" + bad + ")", x.go(bad), BEYOND);
        due("DAY", x.count(0), 63);
        says(10, "STATE: DAY would be above 99999.");
        // More calls than the document speaks of: DAY comes so far in no other way.
        x = Given.told("mural 0 claim 999");
        for (int i = 0; i < 1666; i++) x.go(60);
        due("DAY", x.count(0), 99960);
        due("go(40)", x.go(40), STATE);
        due("go(60)", x.go(60), STATE);
        due("DAY", x.count(0), 99960);
        x.image();
        due("go(39)", x.go(39), 49);
        due("DAY", x.count(0), 99999);
        due("go(1)", x.go(1), STATE);
        due("DAY", x.count(0), 99999);
        due("status(4)", x.status(4), 3);
        x.undo();
        x.go(20);
        int z = x.count(6);
        says(24, "STATE: DAY would be above 99999.");
        due("month(20)", x.month(20), STATE);
        due("no draw", x.count(6), z);
        due("no BLOW", x.listed(0), 0);
        due("DAY", x.count(0), 99980);
        due("month(19)", x.month(19), 49);
        due("DAY", x.count(0), 99999);
        due("month(1)", x.month(1), STATE);

        says(11, "What 0 DAY, 1 AWARDED, 2 LEFT, 3 CLAIMS of all together,");
        x = new JudgedDeposits();
        for (int what = 0; what < 8; what++) due("no THINGS, now(" + what + ")", x.now(what), what == 2 ? 1000 : 0);
        Given.text(x, "wall 999 is 0 claim 999;wall 999 is 0 claim 999;wall 999 is 0 claim 999;wall 999 is 0 claim 999");
        Given.text(x, "wall 999 is 0 claim 999;wall 999 is 0 claim 999;wall 999 is 0 claim 999;wall 999 is 0 claim 999");
        due("CLAIMS of eight", x.now(3), 7992);
        due("AWARDED of eight", x.now(1), 1000);
        due("LEFT", x.now(2), 0);
        x.set(0, 9999);
        due("AWARDED of eight", x.now(1), 7912);
        due("LEFT", x.now(2), 2087);
        due("DAY", x.now(0), 0);
        x.go(60);
        due("DAY", x.now(0), 60);
        for (int t = 0; t < 8; t++) x.change(t, CLAIM, t);
        due("CLAIMS of eight", x.now(3), 28);
        x = Given.told("wall 999 is 0 claim 999;wall 999 is 0 claim 999;wall 999 is 0 claim 999;wall 999 is 0 claim 999",
            "wall 999 is 0 claim 999;wall 999 is 0 claim 999;wall 999 is 0 claim 999;wall 999 is 0 claim 999");
        says(11, "4 THINGS that are WORSE (above 0), as a set, 5 THINGS with an AWARD (above 0), as a set, 6 WORTH of all together,");
        due("WORSE of eight", x.now(4), 255);
        due("AWARDS of eight", x.now(5), 255);
        due("WORTH of eight", x.now(6), 7992);
        for (int t = 0; t < 8; t++) x.change(t, PRICE, t);
        due("WORTH of eight", x.now(6), 28);
        x.change(7, IS, 99);
        due("WORSE of seven", x.now(4), 127);
        due("AWARDS of 1 * 99 / 100, 2 * 99 / 100, ..", x.now(5), 127 - 1 - 2);
        x = Given.told("wall 100 is 98 claim 1;wall 100 claim 1;wall 100 is 98;wall 99 is 98 claim 1;lamp 0 is 0 claim 9");
        due("WORSE by 1, and by 0", x.now(4), 1 + 4 + 8 + 16);
        due("AWARDS of 1, and of 0", x.now(5), 1);
        x.set(SILENT, 1);
        due("WORSE as before", x.now(4), 1 + 4 + 8 + 16);
        due("AWARDS by CLAIMS alone", x.now(5), 1 + 2 + 8);
        x.set(SILENT, 2);
        due("no AWARDS", x.now(5), 0);
        says(11, "7 whether the offers meet (BIDS as much as ASKS or more, ASKS above 0; 1, 0).");
        int[][] offers = {{0, 0, 0}, {0, 1, 0}, {0, 9999, 0}, {1, 0, 0}, {1, 1, 1}, {1, 2, 1}, {500, 499, 0}, {500, 500, 1}, {500, 501, 1},
            {9999, 9998, 0}, {9999, 9999, 1}};
        for (int[] o : offers) {
            x.set(ASKS, o[0]);
            x.set(BIDS, o[1]);
            due("ASKS " + o[0] + ", BIDS " + o[1], x.now(7), o[2]);
        }
        says(11, "BEYOND.");
        for (int bad : new int[] {-1, 8, MIN, MAX}) due("now(" + bad + ")", x.now(bad), BEYOND);
    }

    // ---- what will be

    private static void aheadAndJudged() {
        says(12, "What 4, 8, 9, 10, 11 (as in of()) of a THING behind n (0 to 100) DAYS.");
        JudgedDeposits x = Given.told("lamp 300 is 90 claim 999;thing 5");
        int[] now = {4, 90, 8, 300, 9, 0, 10, 9, 11, 27};
        int[] behind99 = {4, 81, 8, 201, 9, 4, 10, 14, 11, 28};
        int[] behind100 = {4, 80, 8, 200, 9, 99, 10, 0, 11, 0};
        for (int i = 0; i < 10; i += 2) {
            due("ahead(0, " + now[i] + ", 0)", x.ahead(0, now[i], 0), now[i + 1]);
            due("ahead(0, " + now[i] + ", 99)", x.ahead(0, now[i], 99), behind99[i + 1]);
            due("ahead(0, " + now[i] + ", 100)", x.ahead(0, now[i], 100), behind100[i + 1]);
        }
        due("nothing changes", x.count(0) + x.of(0, AGE) + x.of(0, IS), 90);
        says(12, "BEYOND.");
        for (int bad : new int[] {-1, 101, MIN, MAX}) due("n " + bad, x.ahead(0, 4, bad), BEYOND);
        for (int bad : new int[] {-1, 0, 1, 2, 3, 5, 6, 7, 12, MIN, MAX}) due("what " + bad, x.ahead(0, bad, 0), BEYOND);
        for (int bad : new int[] {-1, 2, MIN, MAX}) due("THING " + bad, x.ahead(bad, 4, 0), BEYOND);

        says(13, "What is AWARDED behind n (0 to 100) DAYS.");
        due("judged(0)", x.judged(0), 27);
        due("judged(99)", x.judged(99), 28);
        due("judged(100)", x.judged(100), 0);
        x.set(0, 27);
        due("no more than DEPOSIT", x.judged(99), 27);
        due("no THINGS", new JudgedDeposits().judged(100), 0);
        due("nothing changes", x.count(0) + x.of(0, AGE) + x.of(0, IS), 90);
        says(13, "BEYOND.");
        for (int bad : new int[] {-1, 101, MIN, MAX}) due("judged(" + bad + ")", x.judged(bad), BEYOND);
    }

    private static void worthlessOwingForgiven() {
        says(14, "Behind how many DAYS (0 to 200, the fewest) a THING is WORTH v (0 to 999) or less.");
        JudgedDeposits x = Given.told("thing 500;thing 999;carpet 400;thing 500 aged 301");
        due("now", x.worthless(0, 500), 0);
        due("now", x.worthless(0, 999), 0);
        due("tomorrow", x.worthless(0, 499), 1);
        due("the last", x.worthless(0, 300), 200);
        due("v 999", x.worthless(1, 999), 0);
        due("v 998", x.worthless(1, 998), 1);
        due("v 0", x.worthless(3, 0), 199);
        x.change(3, AGE, 300);
        due("v 0", x.worthless(3, 0), 200);
        x.change(3, AGE, 500);
        due("v 0", x.worthless(3, 0), 0);
        says(14, "NONE.");
        due("behind 201", x.worthless(0, 299), NONE);
        x.change(3, AGE, 299);
        due("behind 201", x.worthless(3, 0), NONE);
        x.change(2, AGE, 9999);
        due("20 at least", x.worthless(2, 19), NONE);
        due("20 at least", x.worthless(2, 20), 0);
        due("nothing changes", x.count(0) + x.of(0, AGE), 0);
        says(14, "BEYOND.");
        for (int bad : new int[] {-1, 1000, MIN, MAX}) due("v " + bad, x.worthless(0, bad), BEYOND);
        for (int bad : new int[] {-1, 4, MIN, MAX}) due("THING " + bad, x.worthless(bad, 0), BEYOND);

        says(15, "Behind how many DAYS (0 to 200, the fewest) AWARD for a THING is v (0 to 999) or more.");
        // Half a coin more for each tenth DAY: 10 behind 200 DAYS.
        x = Given.told("mural 0 claim 999;wall 999 claim 999");
        due("v 0", x.owing(0, 0), 0);
        due("v 1", x.owing(0, 1), 20);
        due("v 9", x.owing(0, 9), 180);
        due("the last", x.owing(0, 10), 200);
        x.set(SILENT, 1);
        due("v 999", x.owing(1, 999), 0);
        due("v 50 of a CLAIM", x.owing(0, 50), 0);
        x.set(SILENT, 0);
        says(15, "NONE.");
        due("behind 220", x.owing(0, 11), NONE);
        due("v 999", x.owing(1, 999), NONE);
        due("nothing changes", x.count(0) + x.of(0, AGE), 0);
        x.change(0, CLAIM, 9);
        due("no CLAIM for it", x.owing(0, 10), NONE);
        says(15, "BEYOND.");
        for (int bad : new int[] {-1, 1000, MIN, MAX}) due("v " + bad, x.owing(0, bad), BEYOND);
        for (int bad : new int[] {-1, 2, MIN, MAX}) due("THING " + bad, x.owing(bad, 0), BEYOND);

        says(16, "Behind how many DAYS (0 to 200, the fewest) nothing is AWARDED.");
        due("no THINGS", new JudgedDeposits().forgiven(), 0);
        // By its CLAIM alone: 1 while it is WORTH 1 yet, to AGE 499.
        x = Given.told("thing 999 aged 499 claim 1;silent 1");
        due("tomorrow", x.forgiven(), 1);
        x.change(0, AGE, 300);
        due("the last", x.forgiven(), 200);
        x.set(0, 0);
        due("DEPOSIT 0", x.forgiven(), 0);
        x.set(0, 1);
        due("DEPOSIT 1", x.forgiven(), 200);
        says(16, "NONE.");
        x.change(0, AGE, 299);
        due("behind 201", x.forgiven(), NONE);
        due("status", x.status(3), 1);
        due("nothing changes", x.count(0) + x.of(0, AGE), 299);
        x.set(ASKS, 1);
        x.set(BIDS, 1);
        x.change(0, AGE, 500);
        due("offers meet for ever", x.forgiven(), NONE);
    }

    // ---- which claim, how many people

    private static void claimFor() {
        says(17, "The least CLAIM for a THING with which AWARD for it is most behind n (0 to 60) DAYS.");
        JudgedDeposits x = Given.told("mural 0;wall 999 is 0 claim 5;wall 7 claim 5");
        due("now", x.claimFor(0, 0), 0);
        due("behind 59 DAYS", x.claimFor(0, 59), 2);
        due("behind 60 DAYS", x.claimFor(0, 60), 3);
        due("WORSE by 99", x.claimFor(1, 0), 989);
        due("not WORSE", x.claimFor(2, 0), 0);
        x.set(SILENT, 1);
        due("999, the most", x.claimFor(1, 60), 999);
        due("its WORTH", x.claimFor(2, 60), 7);
        x.set(SILENT, 2);
        due("no AWARD with any", x.claimFor(1, 60), 0);
        x.set(SILENT, 0);
        x.set(FINAL, 0);
        due("no AWARD with any", x.claimFor(1, 60), 0);
        x.set(FINAL, 1);
        due("CLAIM stays", x.of(1, CLAIM), 5);
        int claim = x.claimFor(1, 0);
        x.change(1, CLAIM, 999);
        int most = x.of(1, AWARD);
        x.change(1, CLAIM, claim);
        due("as much as with 999", x.of(1, AWARD), most);
        x.change(1, CLAIM, claim - 1);
        due("less with one less", x.of(1, AWARD), most - 1);
        says(17, "BEYOND.");
        for (int bad : new int[] {-1, 61, MIN, MAX}) due("n " + bad, x.claimFor(0, bad), BEYOND);
        for (int bad : new int[] {-1, 3, MIN, MAX}) due("THING " + bad, x.claimFor(bad, 0), BEYOND);
    }

    private static void peopleAndKindFor() {
        says(18, "The number of PEOPLE with which least is AWARDED behind n (0 to 60) DAYS.");
        JudgedDeposits x = new JudgedDeposits();
        due("of several the least", x.peopleFor(0), 1);
        due("of several the least", x.peopleFor(60), 1);
        // WORSE is 2 - PEOPLE now, 6 - 2 - PEOPLE behind 49 DAYS, 7 - 2 - PEOPLE behind 50, 8 - 3 - PEOPLE behind 60.
        Given.text(x, "carpet 400 is 97 claim 999");
        due("now", x.peopleFor(0), 2);
        due("behind 49 DAYS", x.peopleFor(49), 4);
        due("behind 50 DAYS", x.peopleFor(50), 5);
        due("behind 60 DAYS", x.peopleFor(60), 5);
        x.change(0, IS, 50);
        due("nine, the most", x.peopleFor(0), 9);
        x.change(0, IS, 98);
        due("one, the least", x.peopleFor(0), 1);
        // A BLOW for each sixth DAY hurts by each of the PEOPLE, and but one is FAIR.
        x.blow(0, 0, 1);
        due("one, the least", x.peopleFor(60), 1);
        due("PEOPLE stay", x.home(PEOPLE), 2);
        x.set(0, 0);
        due("no DEPOSIT: of several the least", x.peopleFor(60), 1);
        x.set(0, 9999);
        x.set(ASKS, 9999);
        x.set(BIDS, 9999);
        due("9999 with all: of several the least", x.peopleFor(60), 1);
        says(18, "BEYOND.");
        for (int bad : new int[] {-1, 61, MIN, MAX}) due("peopleFor(" + bad + ")", x.peopleFor(bad), BEYOND);

        says(19, "The KIND of which a THING must be for that.");
        x = Given.told("rug 200 claim 999;wall 7");
        due("of several the least", x.kindFor(0, 0), THING);
        due("of several the least", x.kindFor(1, 60), THING);
        // IS is 93 behind 60 DAYS: 3 are FAIR for a THING, 5 for a CARPET (PEOPLE 2), 10 for a RUG, 1 for a WALL, 4 for a PAINT.
        due("behind 60 DAYS", x.kindFor(0, 60), RUG);
        x.set(PEOPLE, 9);
        due("6 are FAIR for a CARPET, too", x.kindFor(0, 60), CARPET);
        due("KIND stays", x.of(0, 0), RUG);
        x.change(0, IS, 0);
        x.change(0, PRICE, 0);
        due("WORTH 0: of several the least", x.kindFor(0, 0), THING);
        x.change(0, PRICE, 60);
        // WORTH by a hundred times WORSE: 60 * 99, 60 * 90, 60 * 99, 30 * 96, 80 * 99, 60 * 99, 60 * 81.
        due("now", x.kindFor(0, 0), PAINT);
        x.change(0, DAYS, 100);
        due("LAMPS are worn behind 100 DAYS", x.kindFor(0, 0), LAMP);
        x.change(0, DAYS, 99);
        due("LAMPS aren't behind 99 DAYS", x.kindFor(0, 0), PAINT);
        due("LAMPS are tomorrow", x.kindFor(0, 1), LAMP);
        x.set(0, 9999);
        x.set(ASKS, 9999);
        x.set(BIDS, 9999);
        due("9999 with all: of several the least", x.kindFor(0, 60), THING);
        says(19, "BEYOND.");
        for (int bad : new int[] {-1, 61, MIN, MAX}) due("n " + bad, x.kindFor(0, bad), BEYOND);
        for (int bad : new int[] {-1, 2, MIN, MAX}) due("THING " + bad, x.kindFor(bad, 0), BEYOND);
    }

    private static void forceFor() {
        says(20, "The least FORCE of the BLOW in place i of THE LIST (its THING as it is) with which v (0 to 9999) or more is AWARDED behind n (0 to 60) "
            + "DAYS.");
        // WORTH 100: AWARD is WORSE. Ten BLOWS and 6 DAYS that wear behind 60 DAYS, 1 is FAIR; nine and 5 behind 59.
        JudgedDeposits x = Given.told("wall 100 claim 999;wall 100 claim 999;blow 5 1 3");
        x.change(0, DAYS, 9999);
        due("v 0", x.forceFor(5, 0, 60), 0);
        due("without a BLOW", x.forceFor(5, 5, 60), 0);
        due("one more", x.forceFor(5, 6, 60), 1);
        due("FORCE 8", x.forceFor(5, 85, 60), 8);
        due("FORCE 9", x.forceFor(5, 86, 60), 9);
        due("FORCE 9, the most", x.forceFor(5, 95, 60), 9);
        due("v 0, now", x.forceFor(5, 0, 0), 0);
        due("not yet behind 5 DAYS", x.forceFor(5, 0, 5), 0);
        due("behind 6 DAYS", x.forceFor(5, 9, 6), 9);
        due("place 0", x.forceFor(0, 1, 1), NONE);
        x.blow(0, 1, 9);
        x.blow(5, 7, 9);
        due("place 0", x.forceFor(0, 9, 1), 9);
        due("THE LIST stays", x.listed(0) * 100 + x.listed(5), 1979);
        x.set(0, 9999);
        x.set(ASKS, 9999);
        x.set(BIDS, 9999);
        due("v 9999", x.forceFor(5, 9999, 60), 0);
        says(20, "NONE.");
        x.set(0, 9998);
        due("v 9999", x.forceFor(5, 9999, 60), NONE);
        due("v 9998", x.forceFor(5, 9998, 60), 0);
        x = Given.told("wall 100 claim 999;wall 100 claim 999;blow 5 1 3");
        x.change(0, DAYS, 9999);
        due("behind 60 DAYS", x.forceFor(5, 96, 60), NONE);
        due("behind 59 DAYS", x.forceFor(5, 95, 59), NONE);
        due("behind 5 DAYS", x.forceFor(5, 1, 5), NONE);
        due("now", x.forceFor(5, 1, 0), NONE);
        x.blow(5, 2, 3);
        due("a THING that isn't there", x.forceFor(5, 6, 60), NONE);
        due("a THING that isn't there", x.forceFor(5, 5, 60), 0);
        says(20, "BEYOND.");
        for (int bad : new int[] {-1, 6, MIN, MAX}) due("place " + bad, x.forceFor(bad, 0, 0), BEYOND);
        for (int bad : new int[] {-1, 10000, MIN, MAX}) due("v " + bad, x.forceFor(0, bad, 0), BEYOND);
        for (int bad : new int[] {-1, 61, MIN, MAX}) due("n " + bad, x.forceFor(0, 0, bad), BEYOND);
    }

    private static void giveUp() {
        says(21, "The set of fewest THINGS such that, if the CLAIMS for these are given up now (0), v (0 to 9999) or more is LEFT behind n (0 to 20) DAYS; of "
            + "several the least.");
        due("no THINGS", new JudgedDeposits().giveUp(1000, 20), 0);
        // AWARDS are 10, 20, 20, 40 and 0.
        JudgedDeposits x = Given.told("wall 100 is 0 claim 10;wall 100 is 0 claim 20;wall 100 is 0 claim 20;wall 100 is 0 claim 40", "wall 9");
        x.set(0, 100);
        due("v 0", x.giveUp(0, 0), 0);
        due("as it is", x.giveUp(10, 0), 0);
        due("one, the least", x.giveUp(11, 0), 1);
        due("one, the least", x.giveUp(20, 0), 1);
        due("one of two alike", x.giveUp(21, 0), 2);
        due("one of two alike", x.giveUp(30, 0), 2);
        due("one, the dearest", x.giveUp(31, 0), 8);
        due("one, the dearest", x.giveUp(50, 0), 8);
        due("two, the least", x.giveUp(51, 0), 1 + 8);
        due("two, the dearest", x.giveUp(61, 0), 2 + 8);
        due("three", x.giveUp(71, 0), 1 + 2 + 8);
        due("three others", x.giveUp(81, 0), 2 + 4 + 8);
        due("four", x.giveUp(91, 0), 15);
        due("four", x.giveUp(100, 0), 15);
        due("CLAIMS stay", x.now(3), 90);
        // More than DEPOSIT is claimed: to give up a little helps nothing.
        x.set(0, 50);
        due("a little is of no use", x.giveUp(1, 0), 1 + 8);
        due("a little more", x.giveUp(10, 0), 1 + 8);
        due("two dearer ones", x.giveUp(11, 0), 2 + 8);
        x.set(0, 9999);
        due("v 9999", x.giveUp(9999, 0), 15);
        due("v 9999 behind 20 DAYS", x.giveUp(9999, 20), 15);
        JudgedDeposits y = Given.told("mural 0 claim 9");
        due("behind 19 DAYS", y.giveUp(1000, 19), 0);
        due("behind 20 DAYS", y.giveUp(1000, 20), 1);
        JudgedDeposits z = Given.told("wall 9 is 0 claim 9;wall 9 is 0 claim 9;wall 9 is 0 claim 9;wall 9 is 0 claim 9",
            "wall 9 is 0 claim 9;wall 9 is 0 claim 9;wall 9 is 0 claim 9;wall 9 is 0 claim 9");
        due("all eight", z.giveUp(1000, 0), 255);
        due("seven of eight", z.giveUp(992, 0), 127);
        says(21, "NONE.");
        due("v above DEPOSIT", z.giveUp(1001, 0), NONE);
        x.set(0, 9998);
        due("v 9999", x.giveUp(9999, 0), NONE);
        x.set(0, 1000);
        x.set(ASKS, 1);
        x.set(BIDS, 1);
        due("offers meet", x.giveUp(1000, 0), NONE);
        due("offers meet", x.giveUp(999, 0), 0);
        says(21, "BEYOND.");
        for (int bad : new int[] {-1, 10000, MIN, MAX}) due("v " + bad, x.giveUp(bad, 0), BEYOND);
        for (int bad : new int[] {-1, 21, MIN, MAX}) due("n " + bad, x.giveUp(0, bad), BEYOND);
    }

    // ---- told awards

    private static void fits() {
        says(22, "How many AGES (0 to 599) a THING could have now, so that AWARD for it now and behind each DAY further on is as a sheet tells (-1: any; the "
            + "first 10 numbers alone are asked).");
        // By its CLAIM alone AWARD is its WORTH: 549 for AGE 0, 299 for 599 and 600, 298 for 601.
        JudgedDeposits x = Given.told("mural 999 aged 777 claim 999;wall 100 is 0 claim 999;silent 1");
        Given.row(x, 0, 32, 549);
        due("AGE 0", x.fits(0, 0), 1);
        Given.row(x, 0, 32, 299);
        due("AGE 599, but not 600", x.fits(0, 0), 1);
        Given.row(x, 0, 32, 298);
        due("AGE 601", x.fits(0, 0), 0);
        Given.row(x, 0, 32, -1, 299);
        due("AGE 598 and 599", x.fits(0, 0), 2);
        Given.row(x, 0, 32, -1, -1, 298);
        due("AGE 599", x.fits(0, 0), 1);
        Given.row(x, 0, 32, -1, 549);
        due("AGE -1", x.fits(0, 0), 0);
        Given.row(x, 0, 32);
        due("no number", x.fits(0, 0), 600);
        x.sheet(0, 8, 40);
        for (int i = 0; i < 40; i++) x.write(0, i, 255);
        due("any", x.fits(0, 0), 600);
        x.write(0, 10, 0);
        due("the eleventh isn't asked", x.fits(0, 0), 600);
        x.write(0, 9, 0);
        due("the tenth is asked", x.fits(0, 0), 0);
        due("AGE stays", x.of(0, AGE), 777);
        // WORTH is 299 or more for each AGE to 599: it is the CLAIM of 298 that is told, and never one of 300.
        Given.row(x, 0, 32, 298);
        x.change(0, CLAIM, 298);
        due("no more than the CLAIM", x.fits(0, 0), 600);
        x.change(0, CLAIM, 300);
        due("no more than the CLAIM", x.fits(0, 0), 0);
        Given.row(x, 0, 32, 300);
        due("WORTH is 300 or more to AGE 598", x.fits(0, 0), 599);
        x.set(SILENT, 0);
        Given.row(x, 1, 16, 99, 99, 99, 99, 99, 99, 99, 99, 99, 99);
        due("a WALL of any AGE", x.fits(1, 1), 600);
        // DAY is 1: the tenth number is the first behind DAY 9.
        x.change(1, IS, 1);
        x.go(1);
        Given.row(x, 1, 16, 98, 98, 98, 98, 98, 98, 98, 98, 98, 99);
        due("DAY 9 wears, as DAY is now", x.fits(1, 1), 600);
        Given.row(x, 1, 16, 98, 98, 98, 98, 98, 98, 98, 98, 98, 98);
        due("DAY 9 wears, as DAY is now", x.fits(1, 1), 0);
        JudgedDeposits y = Given.told("thing 500 is 0 claim 999");
        Given.row(y, 0, 32, 0);
        // 99 of 100 of WORTH 1 (AGE 499) is 0, too.
        due("AGE 499 to 599", y.fits(0, 0), 101);
        Given.row(y, 0, 32, 1);
        due("AGE 498", y.fits(0, 0), 1);
        says(22, "BEYOND: no such sheet.");
        for (int bad : new int[] {-1, 4, MIN, MAX}) due("sheet " + bad, y.fits(bad, 0), BEYOND);
        says(22, "MISSING.");
        for (int s = 1; s < 4; s++) due("sheet " + s, y.fits(s, 0), MISSING);
        due("MISSING is asked first", y.fits(1, 8), MISSING);
        says(22, "BEYOND: no such THING.");
        for (int bad : new int[] {-1, 1, 8, MIN, MAX}) due("THING " + bad, y.fits(0, bad), BEYOND);
        Given.row(y, 0, 32);
        due("no number, no THING", y.fits(0, 1), BEYOND);
    }

    private static void kinds() {
        says(23, "KINDS that it could be of, as a set, likewise.");
        // WORTH: 60, 60, 60, 30, 80, 60, 60; WORSE: 99, 90, 99, 96, 99, 99, 81; by 100: 59, 54, 59, 28, 79, 59, 48.
        JudgedDeposits x = Given.told("rug 60 is 0 claim 999");
        x.set(PEOPLE, 9);
        int[][] told = {{59, 1 + 4 + 32}, {54, 2}, {28, 8}, {79, 16}, {48, 64}, {0, 0}, {-1, 127}, {58, 0}, {60, 0}, {-2, 0}};
        for (int[] t : told) {
            Given.row(x, 0, 32, t[0]);
            due("told " + t[0], x.kinds(0, 0), t[1]);
        }
        Given.row(x, 0, 32);
        due("no number", x.kinds(0, 0), 127);
        x.sheet(0, 16, 40);
        for (int i = 0; i < 40; i++) x.write(0, i, i < 10 ? -1 : 5);
        due("the eleventh isn't asked", x.kinds(0, 0), 127);
        x.write(0, 9, 5);
        due("the tenth is asked", x.kinds(0, 0), 0);
        due("KIND stays", x.of(0, 0), RUG);
        // DAY is 3: the BLOW comes on DAY 8, so that the seventh number is the first behind it. It hurts a LAMP by 99.
        JudgedDeposits y = Given.told("wall 100 claim 999;blow 2 0 5");
        y.go(3);
        y.change(0, IS, 99);
        y.change(0, AGE, 0);
        y.change(0, DAYS, 0);
        Given.row(y, 0, 32, 0, 0, 0, 0, 0, 0);
        due("before the BLOW", y.kinds(0, 0), 127);
        Given.row(y, 0, 32, 0, 0, 0, 0, 0, 0, 98);
        // A LAMP of AGE 6 is WORTH 98, and 98 * 99 / 100 is 97.
        due("behind the BLOW", y.kinds(0, 0), 0);
        Given.row(y, 0, 32, 0, 0, 0, 0, 0, 0, 97);
        due("behind the BLOW", y.kinds(0, 0), 32);
        says(23, "BEYOND: no such sheet.");
        for (int bad : new int[] {-1, 4, MIN, MAX}) due("sheet " + bad, x.kinds(bad, 0), BEYOND);
        says(23, "MISSING.");
        for (int s = 1; s < 4; s++) due("sheet " + s, x.kinds(s, 0), MISSING);
        due("MISSING is asked first", x.kinds(1, 8), MISSING);
        says(23, "BEYOND: no such THING.");
        for (int bad : new int[] {-1, 1, 8, MIN, MAX}) due("THING " + bad, x.kinds(0, bad), BEYOND);
        Given.row(x, 0, 32);
        due("no number, no THING", x.kinds(0, 1), BEYOND);
    }

    // ---- months

    private static void months() {
        says(24, "n times (1 to 20) two draws: THE LIST tells for this DAY a BLOW to the THING of the first one's rest by 8 of the second one's rest by 10; then a "
            + "DAY: what is AWARDED then.");
        JudgedDeposits x = new JudgedDeposits();
        x.month(1);
        due("DAY", x.count(0), 1);
        due("the BLOW from z 1", x.listed(0), 62);
        for (int i = 1; i < 6; i++) due("other places", x.listed(i), 0);
        x = new JudgedDeposits();
        x.go(5);
        x.month(1);
        due("on DAY 5", x.listed(5), 62);
        due("on DAY 5", x.listed(0), 0);
        for (int seed : new int[] {0, 1, -1, 77, MIN, MAX}) {
            String walls = "wall 100 claim 999;wall 100 claim 999;wall 100 claim 999;wall 100 claim 999";
            JudgedDeposits all = Given.told(walls);
            JudgedDeposits each = Given.told(walls);
            all.seed(seed);
            each.seed(seed);
            int worse = 0;
            for (int day = 0; day < 20; day++) {
                each.month(1);
                int blow = each.listed(day % 6);
                if (blow < 40) worse += blow % 10;
                if (day % 10 == 9) worse += 4;
            }
            due("AWARDED behind twenty from z " + seed, all.month(20), Math.min(1000, worse));
            due("AWARDED behind twenty from z " + seed, each.now(1), Math.min(1000, worse));
            due("z", all.count(6), each.count(6));
            due("DAY", all.count(0), 20);
            for (int i = 0; i < 6; i++) due("listed(" + i + ")", all.listed(i), each.listed(i));
        }
        says(24, "BEYOND.");
        for (int bad : new int[] {0, -1, 21, MIN, MAX}) due("month(" + bad + ")", x.month(bad), BEYOND);
        due("DAY", x.count(0), 6);
        due("no draw", x.count(6), -1770082073);

        says(26, "z becomes v: what it was.");
        x = new JudgedDeposits();
        due("at first", x.seed(MIN), 1);
        due("MIN", x.seed(MAX), MIN);
        due("MAX", x.seed(-1), MAX);
        due("-1", x.seed(-1000005), -1);
        due("-1000005", x.seed(0), -1000005);
        due("no finding", x.status(-1), 0);
    }

    private static void odds(JudgedDeposits x, int thing, int v, int n, long above, long below) {
        due("odds(" + thing + ", " + v + ", " + n + ", 0)", x.odds(thing, v, n, 0), above);
        due("odds(" + thing + ", " + v + ", " + n + ", 1)", x.odds(thing, v, n, 1), below);
    }

    private static void oddsOfForces() {
        says(25, "The odds that n (0 to 18) FORCES, each the rest by 10 of a draw, are all such that a THING HURTS no more than v (0 to 99) by them: a fraction in "
            + "lowest terms: above (what 0), below the line (1).");
        JudgedDeposits x = Given.told("wall 1;lamp 1;carpet 1;thing 1;mural 1");
        long[] above = {1, 1, 3, 2, 1, 3, 7, 4, 9, 1};
        long[] below = {10, 5, 10, 5, 2, 5, 10, 5, 10, 1};
        for (int v = 0; v < 10; v++) odds(x, 0, v, 1, above[v], below[v]);
        for (int v = 0; v < 10; v++) odds(x, 0, v, 0, 1, 1);
        odds(x, 0, 99, 18, 1, 1);
        odds(x, 0, 0, 18, 1, 1000000000000000000L);
        odds(x, 0, 8, 18, 150094635296999121L, 1000000000000000000L);
        odds(x, 0, 6, 18, 1628413597910449L, 1000000000000000000L);
        odds(x, 0, 7, 18, 68719476736L, 3814697265625L);
        odds(x, 0, 1, 18, 1, 3814697265625L);
        odds(x, 0, 4, 18, 1, 262144);
        odds(x, 1, 0, 1, 1, 2);
        odds(x, 1, 98, 1, 1, 2);
        odds(x, 1, 99, 1, 1, 1);
        odds(x, 2, 6, 1, 1, 10);
        odds(x, 2, 7, 1, 1, 5);
        odds(x, 3, 44, 1, 9, 10);
        odds(x, 3, 45, 1, 1, 1);
        odds(x, 4, 11, 1, 1, 10);
        odds(x, 4, 12, 1, 1, 5);
        odds(x, 4, 27, 1, 9, 10);
        odds(x, 4, 28, 1, 1, 1);
        x.set(PEOPLE, 3);
        odds(x, 2, 7, 1, 1, 10);
        due("no draw", x.count(6), 1);
        says(25, "BEYOND.");
        for (int bad : new int[] {-1, 5, MIN, MAX}) due("THING " + bad, x.odds(bad, 0, 0, 0), BEYOND);
        for (int bad : new int[] {-1, 100, MIN, MAX}) due("v " + bad, x.odds(0, bad, 0, 0), BEYOND);
        for (int bad : new int[] {-1, 19, MIN, MAX}) due("n " + bad, x.odds(0, 0, bad, 0), BEYOND);
        for (int bad : new int[] {-1, 2, MIN, MAX}) due("what " + bad, x.odds(0, 0, 0, bad), BEYOND);
    }

    // ---- texts

    private static void tape() {
        says(27, "THE TAPE gets the n lowest bytes of a number behind it, the highest of these first (n 1 to 4): how many it has.");
        JudgedDeposits x = new JudgedDeposits();
        due("feed(\"rug \", 4)", x.feed(0x72756720, 4), 4);
        due("feed(\"39\", 2) below two others", x.feed(0x78783339, 2), 6);
        due("text()", x.text(), 1);
        due("PRICE", x.of(0, PRICE), 39);
        due("feed(\"wal\", 3) below another", x.feed(0xff77616c, 3), 3);
        due("feed(\"l\", 1) below three others", x.feed(0xffffff6c, 1), 4);
        due("feed(\"17\", 2)", x.feed(0x3137, 2), 6);
        due("text()", x.text(), 1);
        due("PRICE", x.of(1, PRICE), 17);
        due("bytes above 127", x.feed(-1, 4), 4);
        due("bytes above 127", x.text(), -1);
        says(27, "BEYOND: n.");
        for (int bad : new int[] {0, -1, 5, MIN, MAX}) due("feed(0, " + bad + ")", x.feed(0, bad), BEYOND);
        due("bytes", x.count(5), 0);
        says(27, "FULL.");
        for (int i = 1; i <= 29; i++) due("feed " + i, x.feed(0x20202020, 4), 4 * i);
        due("117", x.feed(0x20, 1), 117);
        due("four more", x.feed(0x20202020, 4), FULL);
        due("as it was", x.count(5), 117);
        due("three more", x.feed(0x20202020, 3), 120);
        for (int n = 1; n <= 4; n++) due(n + " more", x.feed(0x20202020, n), FULL);
        due("as it was", x.count(5), 120);
        due("FULL, but BEYOND is asked first", x.feed(0, 5), BEYOND);

        says(28, "THE TAPE is empty: how many it had.");
        due("120", x.wipe(), 120);
        due("0", x.wipe(), 0);
        due("0", x.count(5), 0);
        due("there is room again", x.feed(0x20, 1), 1);
        due("1", x.wipe(), 1);
        due("a text of nothing", x.text(), -1);
    }

    private static void text() {
        says(29, "THE TAPE is a TEXT, and empty then; all that it tells is so, item by item: how many ITEMS.");
        JudgedDeposits x = new JudgedDeposits();
        due("one", Given.text(x, "silent 1"), 1);
        due("SILENT", x.home(SILENT), 1);
        due("empty", x.count(5), 0);
        due("the later one counts", Given.text(x, "silent 1;home 5 6;silent 2;home 7 8;blow 0 1 1;blow 0 2 2"), 6);
        due("SILENT", x.home(SILENT), 2);
        due("DEPOSIT", x.home(0), 7);
        due("PEOPLE", x.home(PEOPLE), 8);
        due("BLOW", x.listed(0), 22);
        due("eight THINGS", Given.text(x, "rug1;lamp2;wall3;rug4;mural5;paint6;carpet7;thing8"), 8);
        for (int t = 0; t < 8; t++) due("THINGS in their order", x.of(t, PRICE), t + 1);
        due("without THINGS there is room yet", Given.text(x, "offer 1 2;offer 3 4"), 2);
        due("offers", x.home(ASKS) * 10 + x.home(BIDS), 34);
        x = Given.told("rug 1 is 5 claim 6");
        x.text();
        due("a THING after another", Given.text(x, "rug 2"), 1);
        int[] fresh = {RUG, 2, 0, 99, 99, 0, 0};
        for (int what = 0; what < 7; what++) due("as at first: " + what, x.of(1, what), fresh[what]);
        x = new JudgedDeposits();
        x.image();
        Given.text(x, "wall 9 aged 8 is 7 claim 6");
        x.change(0, WAS, 5);
        x.change(0, DAYS, 4);
        x.judged(1);
        x.undo();
        due("where another was", Given.text(x, "rug 2"), 1);
        for (int what = 0; what < 7; what++) due("as at first: " + what, x.of(0, what), fresh[what]);
        x.undo();
        due("a FAULT behind a THING", Given.text(x, "wall 9 aged 8 is 7 claim 6 #"), -28);
        due("where another would have been", Given.text(x, "rug 2"), 1);
        for (int what = 0; what < 7; what++) due("as at first: " + what, x.of(0, what), fresh[what]);

        says(29, "With a FAULT: -1 less the FAULT (nothing changes but that THE TAPE is empty; no finding).");
        x = Given.told("rug 1;home 55 5;blow 0 1 2;offer 3 4;silent 1");
        String[] texts = {"", "x", "home 1 1;x", "rug 1;blow 0 0 0;offer 0 0;silent 0;home 1 1;x", "rug1;rug1;rug1;rug1;rug1;rug1;rug1;rug1"};
        int[] faults = {0, 0, 9, 45, 35};
        for (int i = 0; i < texts.length; i++) {
            due("\"" + texts[i] + "\"", Given.text(x, texts[i]), -1 - faults[i]);
            due("THE TAPE is empty", x.count(5), 0);
            due("THINGS", x.count(1), 1);
            due("HOME", x.home(0) * 10 + x.home(PEOPLE), 555);
            due("BLOW", x.listed(0), 12);
            due("offers", x.home(ASKS) * 10 + x.home(BIDS), 34);
            due("SILENT", x.home(SILENT), 1);
        }
        due("-121, of 120 bytes", Given.text(x, " ".repeat(120)), -121);
        due("no finding", x.status(-1), 0);
        due("the rest has room yet", Given.text(x, "rug1;rug1;rug1;rug1;rug1;rug1;rug1"), 7);
        due("THINGS", x.count(1), 8);
    }

    // ---- spots, sheets

    private static void spots() {
        says(30, "A SPOT holds a THING, or nothing (-1): 1.");
        JudgedDeposits x = Given.told("rug 1;wall 1");
        due("nothing again", x.hold(0, -1), 1);
        due("hold(0, 0)", x.hold(0, 0), 1);
        due("hold(9, 1)", x.hold(9, 1), 1);
        due("two", x.count(7), 2);
        due("hold(0, 1)", x.hold(0, 1), 1);
        due("two hold one", x.as(0, WALL) * 10 + x.as(9, WALL), 11);
        due("hold(0, -1)", x.hold(0, -1), 1);
        due("one", x.count(7), 1);
        says(30, "BEYOND.");
        for (int bad : new int[] {-1, 10, MIN, MAX}) due("SPOT " + bad, x.hold(bad, 0), BEYOND);
        for (int bad : new int[] {-2, 2, 8, MIN, MAX}) due("THING " + bad, x.hold(9, bad), BEYOND);
        due("no THINGS", new JudgedDeposits().hold(0, 0), BEYOND);
        due("nothing, of no SPOT", x.hold(10, -1), BEYOND);

        says(31, "What a SPOT holds as one of a kind (0 to 6): the number of the THING.");
        due("its own kind", x.as(9, WALL), 1);
        due("above", x.as(9, THING), 1);
        x.hold(0, 0);
        due("RUG", x.as(0, RUG), 0);
        due("CARPET", x.as(0, CARPET), 0);
        due("THING", x.as(0, THING), 0);
        says(31, "BEYOND.");
        for (int bad : new int[] {-1, 10, MIN, MAX}) due("SPOT " + bad, x.as(bad, 0), BEYOND);
        for (int bad : new int[] {-1, 7, MIN, MAX}) due("kind " + bad, x.as(0, bad), BEYOND);
        says(31, "MISSING: it holds nothing.");
        for (int kind = 0; kind < 7; kind++) due("as(5, " + kind + ")", x.as(5, kind), MISSING);
        x.hold(0, -1);
        due("no more", x.as(0, 0), MISSING);
        says(31, "KIND: it isn't of that kind, nor of one under it.");
        due("a WALL isn't a PAINT under it", x.as(9, PAINT), KIND);
        due("nor a MURAL", x.as(9, MURAL), KIND);
        due("nor one beside it", x.as(9, CARPET), KIND);
        x.change(1, 0, MURAL);
        due("a MURAL is a PAINT", x.as(9, PAINT), 1);
        due("and a WALL", x.as(9, WALL), 1);
        due("and a THING", x.as(9, THING), 1);
        due("but no LAMP", x.as(9, LAMP), KIND);
        x.change(1, 0, THING);
        for (int kind = 1; kind < 7; kind++) due("a THING isn't one of " + kind, x.as(9, kind), KIND);
    }

    private static void sheets() {
        says(32, "A sheet has n numbers, all 0, of 8, 16 or 32 bits; bits 0: it is MISSING: n (0 if it is MISSING).");
        JudgedDeposits x = Given.told("wall 1;wall 1;wall 1");
        for (int bits : new int[] {8, 16, 32}) {
            for (int n : new int[] {0, 1, 39, 40}) {
                due("sheet(0, " + bits + ", " + n + ")", x.sheet(0, bits, n), n);
                due("number " + n + " isn't there", x.write(0, n, 1), BEYOND);
                if (n > 0) due("number " + (n - 1), x.write(0, n - 1, 1), 1);
            }
            x.sheet(0, bits, 3);
            for (int i = 0; i < 3; i++) x.write(0, i, 7);
            x.sheet(0, bits, 3);
            due("all 0", x.load(0), 3);
            due("all 0", x.now(3), 0);
        }
        for (int n : new int[] {0, 1, 40}) {
            x.sheet(0, 8, 1);
            due("sheet(0, 0, " + n + ")", x.sheet(0, 0, n), 0);
            due("MISSING", x.write(0, 0, 0), MISSING);
        }
        Given.row(x, 0, 8, 1, 1, 1);
        x.sheet(0, 0, 3);
        x.sheet(0, 8, 3);
        x.load(0);
        due("0 when it comes again", x.now(3), 0);
        says(32, "BEYOND: no such sheet, other bits.");
        for (int bad : new int[] {-1, 4, MIN, MAX}) due("sheet " + bad, x.sheet(bad, 8, 1), BEYOND);
        for (int bad : new int[] {-8, -1, 1, 4, 7, 9, 15, 17, 24, 31, 33, 40, 64, MIN, MAX}) due("bits " + bad, x.sheet(0, bad, 1), BEYOND);
        due("asked before SIZE", x.sheet(4, 8, -1), BEYOND);
        due("asked before SIZE", x.sheet(0, 1, -1), BEYOND);
        says(32, "SIZE: n is below 0 (also with bits 0).");
        for (int bits : new int[] {0, 8, 16, 32}) for (int n : new int[] {-1, MIN}) due("n " + n + ", bits " + bits, x.sheet(0, bits, n), SIZE);
        says(32, "BEYOND: n is above 40 (also with bits 0).");
        for (int bits : new int[] {0, 8, 16, 32}) for (int n : new int[] {41, MAX}) due("n " + n + ", bits " + bits, x.sheet(0, bits, n), BEYOND);
        due("as it was", x.load(0), 3);

        says(33, "Number i of a sheet becomes v (its lowest bits): 1.");
        x = Given.told("wall 1;wall 1;wall 1");
        Given.row(x, 3, 16, 0, 0, 0);
        due("write(3, 0, 999)", x.write(3, 0, 999), 1);
        due("write(3, 2, 65536 + 5)", x.write(3, 2, 65541), 1);
        due("load(3)", x.load(3), 3);
        due("number 0", x.of(0, CLAIM), 999);
        due("number 1", x.of(1, CLAIM), 0);
        due("number 2", x.of(2, CLAIM), 5);
        says(33, "BEYOND: no such sheet.");
        for (int bad : new int[] {-1, 4, MIN, MAX}) due("sheet " + bad, x.write(bad, 0, 0), BEYOND);
        says(33, "MISSING.");
        for (int s = 0; s < 3; s++) due("sheet " + s, x.write(s, 0, 0), MISSING);
        due("asked before the number", x.write(0, -1, 0), MISSING);
        says(33, "BEYOND: no such number.");
        for (int bad : new int[] {-1, 3, 40, MIN, MAX}) due("number " + bad, x.write(3, bad, 0), BEYOND);
        x.sheet(2, 8, 0);
        due("a sheet without numbers", x.write(2, 0, 0), BEYOND);
    }

    private static void claims(JudgedDeposits x, int s, int... want) {
        due("load(" + s + ")", x.load(s), want.length);
        for (int i = 0; i < want.length; i++) due("number " + i + " of " + s, x.of(i, CLAIM), want[i]);
    }

    private static void copy() {
        says(34, "n numbers of a sheet from one on come to another one from one on (as they all were): n.");
        JudgedDeposits x = Given.told("wall 1;wall 1;wall 1;wall 1");
        Given.row(x, 0, 16, 1, 2, 3, 4);
        Given.row(x, 1, 16, 5, 6, 7, 8);
        due("none", x.copy(0, 0, 1, 0, 0), 0);
        due("none, at the ends", x.copy(0, 4, 1, 4, 0), 0);
        claims(x, 1, 5, 6, 7, 8);
        due("one, last to first", x.copy(0, 3, 1, 0, 1), 1);
        claims(x, 1, 4, 6, 7, 8);
        due("two, first to last", x.copy(0, 0, 1, 2, 2), 2);
        claims(x, 1, 4, 6, 1, 2);
        claims(x, 0, 1, 2, 3, 4);
        due("all", x.copy(0, 0, 1, 0, 4), 4);
        claims(x, 1, 1, 2, 3, 4);
        due("in one sheet, on", x.copy(0, 0, 0, 1, 3), 3);
        claims(x, 0, 1, 1, 2, 3);
        due("in one sheet, back", x.copy(1, 1, 1, 0, 3), 3);
        claims(x, 1, 2, 3, 4, 4);
        due("in one sheet, to itself", x.copy(1, 0, 1, 0, 4), 4);
        claims(x, 1, 2, 3, 4, 4);
        x.sheet(0, 32, 40);
        x.sheet(1, 32, 40);
        due("forty", x.copy(0, 0, 1, 0, 40), 40);
        x.sheet(0, 32, 0);
        due("none of none", x.copy(0, 0, 0, 0, 0), 0);
        due("none of none", x.copy(0, 0, 1, 40, 0), 0);

        says(34, "BEYOND: no such sheet (either).");
        Given.row(x, 0, 16, 1, 2, 3, 4);
        Given.row(x, 1, 16, 5, 6, 7);
        for (int bad : new int[] {-1, 4, MIN, MAX}) due("from sheet " + bad, x.copy(bad, 0, 0, 0, 1), BEYOND);
        for (int bad : new int[] {-1, 4, MIN, MAX}) due("to sheet " + bad, x.copy(0, 0, bad, 0, 1), BEYOND);
        due("asked before MISSING", x.copy(2, 0, 4, 0, 1), BEYOND);
        due("asked before MISSING", x.copy(4, 0, 2, 0, 1), BEYOND);
        says(34, "MISSING: one is.");
        due("from", x.copy(2, 0, 0, 0, 1), MISSING);
        due("to", x.copy(0, 0, 2, 0, 1), MISSING);
        due("both", x.copy(2, 0, 3, 0, 1), MISSING);
        due("none of them", x.copy(2, 0, 2, 0, 0), MISSING);
        says(34, "KIND: they are not of as many bits.");
        x.sheet(2, 8, 4);
        x.sheet(3, 32, 4);
        for (int s : new int[] {2, 3}) {
            due("0 to " + s, x.copy(0, 0, s, 0, 1), KIND);
            due(s + " to 0", x.copy(s, 0, 0, 0, 1), KIND);
            due("none of them", x.copy(s, 0, 0, 0, 0), KIND);
            due("asked before BEYOND", x.copy(s, -1, 0, 0, 0), KIND);
        }
        says(34, "BEYOND: one has not so many, or from, to or n is below 0.");
        int[][] bad = {{0, 0, 5}, {1, 0, 4}, {4, 0, 1}, {0, 0, 4}, {0, 1, 3}, {0, 2, 2}, {0, 3, 1}, {-1, 0, 1}, {0, -1, 1}, {0, 0, -1},
            {MAX, 0, 1}, {0, MAX, 1}, {0, 0, MAX}, {MAX, 0, MAX}, {0, MAX, MAX}, {1, 1, MAX}, {MIN, 0, 1}, {0, MIN, 1}, {0, 0, MIN},
            {-1, 0, 0}, {0, -1, 0}, {5, 0, 0}, {0, 4, 0}, {2, 2, -1}};
        for (int[] b : bad) due("copy(0, " + b[0] + ", 1, " + b[1] + ", " + b[2] + ")", x.copy(0, b[0], 1, b[1], b[2]), BEYOND);
        claims(x, 1, 5, 6, 7);
        due("just so many", x.copy(0, 1, 1, 0, 3), 3);
        claims(x, 1, 2, 3, 4);
        due("just so many", x.copy(1, 2, 0, 3, 1), 1);
        claims(x, 0, 1, 2, 3, 4);
    }

    private static void loadAndJudge() {
        says(35, "Numbers of a sheet, from its begin on, become CLAIMS for THINGS 0, 1, ..: how many came.");
        JudgedDeposits x = Given.told("wall 1 claim 5;wall 1 claim 6;wall 1 claim 7");
        Given.row(x, 0, 32, 999, 0);
        due("load(0)", x.load(0), 2);
        due("the most", x.of(0, CLAIM), 999);
        due("the least", x.of(1, CLAIM), 0);
        due("no number for it", x.of(2, CLAIM), 7);
        x.sheet(0, 32, 0);
        due("no number", x.load(0), 0);
        due("as it was", x.of(0, CLAIM), 999);
        says(35, "It ends at the first that isn't 0 to 999, or for which there is no THING.");
        for (int bad : new int[] {-1, 1000, MIN, MAX}) {
            Given.row(x, 0, 32, bad, 1, 2);
            due("first " + bad, x.load(0), 0);
            due("as it was", x.of(1, CLAIM), 0);
            Given.row(x, 0, 32, 999, bad, 2);
            due("second " + bad, x.load(0), 1);
            due("as it was", x.of(1, CLAIM), 0);
            due("as it was", x.of(2, CLAIM), 7);
            Given.row(x, 0, 32, 999, 0, bad);
            due("third " + bad, x.load(0), 2);
        }
        Given.row(x, 0, 32, 1, 2, 3);
        due("as many as THINGS", x.load(0), 3);
        Given.row(x, 0, 32, 4, 5, 6, 7);
        due("one more than THINGS", x.load(0), 3);
        due("CLAIMS", x.now(3), 15);
        due("no THINGS", new JudgedDeposits().load(0), MISSING);
        JudgedDeposits y = new JudgedDeposits();
        y.sheet(0, 8, 40);
        due("no THINGS", y.load(0), 0);
        Given.full(y);
        due("eight THINGS", y.load(0), 8);
        says(35, "BEYOND: no such sheet.");
        for (int bad : new int[] {-1, 4, MIN, MAX}) due("load(" + bad + ")", x.load(bad), BEYOND);
        says(35, "MISSING.");
        for (int s = 1; s < 4; s++) due("load(" + s + ")", x.load(s), MISSING);

        says(36, "THE READER: numbers of a sheet are AWARDS for THINGS 0, 1, ..: 0 if so; else 1 and the place of the first that isn't so.");
        x = Given.told("wall 100 is 0 claim 30;wall 100 is 0 claim 40;wall 100 is 0 claim 50");
        Given.row(x, 0, 16, 30, 40, 50);
        due("so", x.judge(0), 0);
        for (int wrong : new int[] {-1, 1}) {
            Given.row(x, 0, 16, 30 + wrong, 40, 50);
            due("the first", x.judge(0), 1);
            Given.row(x, 0, 16, 30, 40 + wrong, 50);
            due("the second", x.judge(0), 2);
            Given.row(x, 0, 16, 30, 40, 50 + wrong);
            due("the third", x.judge(0), 3);
            Given.row(x, 0, 16, 30 + wrong, 40, 50 + wrong);
            due("the first of two", x.judge(0), 1);
        }
        Given.row(x, 0, 16, 30, 40);
        due("fewer than THINGS", x.judge(0), 0);
        Given.row(x, 0, 16);
        due("no number", x.judge(0), 0);
        Given.row(x, 0, 16, 30, 40, 50, 0);
        due("a number for no THING", x.judge(0), 4);
        Given.row(x, 0, 16, -1, 40, 50);
        due("-1 isn't any here", x.judge(0), 1);
        y = new JudgedDeposits();
        Given.row(y, 0, 16, 0);
        due("no THINGS", y.judge(0), 1);
        y.sheet(0, 16, 40);
        Given.full(y);
        due("eight THINGS, forty numbers", y.judge(0), 9);
        y.sheet(0, 16, 8);
        due("eight THINGS", y.judge(0), 0);
        y.write(0, 7, 1);
        due("the last of eight", y.judge(0), 8);
        says(36, "BEYOND: no such sheet.");
        for (int bad : new int[] {-1, 4, MIN, MAX}) due("judge(" + bad + ")", x.judge(bad), BEYOND);
        says(36, "MISSING.");
        for (int s = 1; s < 4; s++) due("judge(" + s + ")", x.judge(s), MISSING);
    }

    // ---- images

    private static void images() {
        says(37, "All but THE TAPE and SHEETS is kept: 1.");
        JudgedDeposits x = Given.told("wall 100 aged 3 is 50 claim 30;home 77 3;blow 5 1 2;offer 8 9;silent 1");
        x.set(FIRST, 0);
        x.set(FINAL, 0);
        x.change(0, WAS, 98);
        x.change(0, DAYS, 97);
        x.hold(9, 0);
        x.seed(-5);
        x.go(7);
        Given.feed(x, "rug 4");
        Given.row(x, 1, 8, 1, 2);
        due("image()", x.image(), 1);
        Given.feed(x, "4");
        x.text();
        int[] other = {5, 5, 1, 1, 0, 6, 6};
        for (int what = 0; what < 7; what++) x.set(what, other[what]);
        int[] trait = {1, 2, 3, 4, 5, 6, 7};
        for (int what = 0; what < 7; what++) x.change(0, what, trait[what]);
        x.blow(5, 3, 3);
        x.hold(9, 1);
        x.hold(0, 1);
        Given.feed(x, "rug 123");
        x.write(1, 0, 9);
        x.month(6);
        due("undo()", x.undo(), 7);
        int[] home = {77, 3, 0, 0, 1, 8, 9};
        for (int what = 0; what < 7; what++) due("home(" + what + ")", x.home(what), home[what]);
        // go(7) came to the BLOW of DAY 5, to no THING.
        int[] of = {WALL, 100, 10, 98, 50, 104, 30};
        for (int what = 0; what < 7; what++) due("of(0, " + what + ")", x.of(0, what), of[what]);
        due("THINGS", x.count(1), 1);
        for (int i = 0; i < 6; i++) due("listed(" + i + ")", x.listed(i), i == 5 ? 12 : 0);
        due("z", x.count(6), -5);
        due("DAY", x.count(0), 7);
        due("SPOT 9", x.as(9, 0), 0);
        due("SPOT 0", x.as(0, 0), MISSING);
        due("SPOTS", x.count(7), 1);
        due("THE TAPE isn't", x.count(5), 7);
        due("THE TAPE isn't", x.text(), 1);
        due("THE TAPE isn't", x.of(1, PRICE), 123);
        due("SHEETS aren't", x.load(1), 2);
        due("SHEETS aren't", x.of(0, CLAIM) * 10 + x.of(1, CLAIM), 92);
        due("the new THING is as at first", x.of(1, AGE) + x.of(1, DAYS), 0);

        says(38, "It becomes what was kept latest (which stays): DAY.");
        due("once more", x.undo(), 7);
        due("once more", x.of(0, CLAIM), 30);
        x.go(1);
        due("once more", x.undo(), 7);
        x.go(2);
        x.image();
        x.go(3);
        due("the latest", x.undo(), 9);
        due("right away", x.undo(), 9);
        x.tear();
        says(38, "NONE: nothing is kept.");
        due("torn", x.undo(), NONE);
        due("as it was", x.count(0), 9);
        due("never kept", new JudgedDeposits().undo(), NONE);
        JudgedDeposits y = new JudgedDeposits();
        y.image();
        due("DAY 0 of nothing", y.undo(), 0);

        says(39, "Nothing is kept: 1 if something was, else 0.");
        due("torn already", x.tear(), 0);
        x.image();
        x.image();
        due("two images are one", x.tear(), 1);
        due("torn already", x.tear(), 0);
        due("nothing changes", x.count(0), 9);
        x.image();
        due("kept again", x.undo(), 9);
        due("never kept", new JudgedDeposits().tear(), 0);
        due("no finding", new JudgedDeposits().status(-1), 0);
    }

    private static void countAndStatus() {
        says(40, "0 DAY, 1 THINGS, 2 DEPOSIT, 3 AWARDED, 4 CLAIMS of all together, 5 bytes of THE TAPE, 6 z, 7 SPOTS that hold something.");
        JudgedDeposits x = new JudgedDeposits();
        int[] first = {0, 0, 1000, 0, 0, 0, 1, 0};
        for (int what = 0; what < 8; what++) due("at first: count(" + what + ")", x.count(what), first[what]);
        Given.full(x);
        for (int t = 0; t < 8; t++) {
            x.change(t, 0, WALL);
            x.change(t, PRICE, 999);
            x.change(t, IS, 0);
            x.change(t, CLAIM, 999);
        }
        for (int spot = 0; spot < 10; spot++) x.hold(spot, 7);
        x.set(0, 9999);
        x.seed(MIN);
        while (x.count(5) < 120) x.feed(0, 4);
        x.go(60);
        // Of each WALL 999 * (99 - 1) / 100.
        int[] most = {60, 8, 9999, 7832, 7992, 120, MIN, 10};
        for (int what = 0; what < 8; what++) due("the most: count(" + what + ")", x.count(what), most[what]);
        x.set(0, 7831);
        due("AWARDED, no more than DEPOSIT", x.count(3), 7831);
        for (int t = 0; t < 8; t++) x.change(t, CLAIM, 10 + t);
        due("CLAIMS alone", x.count(4), 108);
        says(40, "BEYOND: another what.");
        for (int bad : new int[] {-1, 8, MIN, MAX}) due("count(" + bad + ")", x.count(bad), BEYOND);

        says(41, "How many acts answered a finding ever (undo() takes none back): which -1: all, 0 to 6: BEYOND to SIZE.");
        x = new JudgedDeposits();
        for (int which = -1; which < 7; which++) due("at first: status(" + which + ")", x.status(which), 0);
        x.image();
        x.odds(0, 0, 0, 0);
        due("a long finding", x.status(0), 1);
        x.home(7);
        due("BEYOND", x.status(0), 2);
        Given.full(x);
        x.thing(0, 0);
        due("FULL", x.status(1), 1);
        x.hold(0, 0);
        x.as(0, 1);
        due("KIND", x.status(2), 1);
        x.worthless(0, 0);
        due("not NONE: WORTH 0", x.status(3), 0);
        x.owing(0, 1);
        due("NONE", x.status(3), 1);
        due("STATE", x.status(4), 0);
        x.judge(0);
        due("MISSING", x.status(5), 1);
        x.sheet(0, 0, -1);
        due("SIZE", x.status(6), 1);
        due("all", x.status(-1), 7);
        x.undo();
        due("undo() takes none back", x.status(-1), 7);
        due("undo() takes none back", x.status(1), 1);
        x.seed(BEYOND);
        x.seed(0);
        Given.text(x, "#");
        due("no findings", x.status(-1), 7);
        says(41, "BEYOND (counted from then on): another one.");
        due("status(-2)", x.status(-2), BEYOND);
        due("counted", x.status(0), 3);
        due("status(7)", x.status(7), BEYOND);
        due("status(MAX)", x.status(MAX), BEYOND);
        due("status(MIN)", x.status(MIN), BEYOND);
        due("counted", x.status(0), 6);
        due("counted", x.status(-1), 11);
    }

    public static void main(String[] args) {
        newObject();
        setAndHome();
        blowAndListed();
        thingOfChangeHurts();
        goAndNow();
        aheadAndJudged();
        worthlessOwingForgiven();
        claimFor();
        peopleAndKindFor();
        forceFor();
        giveUp();
        fits();
        kinds();
        months();
        oddsOfForces();
        tape();
        text();
        spots();
        sheets();
        copy();
        loadAndJudge();
        images();
        countAndStatus();
        doc.allNamed("Promise");
        doc.end();
    }
}
