/** Each edge that Terms I and promises 6 to 12 name for FIGHTERS and their CLASSES, on both sides. */
public final class PeopleEdgesTest {
    private static final Check check = new Check("PeopleEdgesTest");
    private static final int LEAST = Integer.MIN_VALUE, MOST = Integer.MAX_VALUE;
    /** In Check.busy(): FIGHTERS 0 .. 3 of CLASS 0 and 4 .. 9 of CLASS 1, both drawn; 10 (SEED 1), 11 (OUT), 12 of 2. */
    private static final Check.Made busy = Check::busy;

    public static void main(String[] args) {
        limitsAtFirst();
        limitInRange();
        limitInState();
        limitAndLog();
        numberedAsTheyCome();
        atMost96();
        enterInRange();
        enterInState();
        enterAndLog();
        weighedOrOut();
        outUntilWeighedAgain();
        weighInRange();
        weighInState();
        weighAndLog();
        seedInRange();
        seedOfAnother();
        seedInState();
        seedAndLog();
        drawInRange();
        drawInState();
        howManyAreDrawn();
        onlyWeighedOnesAreDrawn();
        drawAndLog();
        drawnStays();
        fighterOfAnotherWhat();
        fighterAheadAndBehind();
        aboutOfAnotherWhat();
        aboutAheadAndBehind();
        aboutPlaces();
        fullClassesSideBySide();
        fullHouse();
        check.end();
    }

    private static void refused(String what, Check.Call call, int want) { check.refused(what, busy, call, want); }

    /** "CLASSES 0 .. 3 with limits of weight (from 0 to 200000 grams at first)." */
    private static void limitsAtFirst() {
        for (int c = 0; c < 4; c++) {
            JudoHall x = new JudoHall();
            x.enter(0, c);
            check.due("0 grams in class " + c, x.weigh(0, 0), 1);
            check.due("200000 grams in class " + c, x.weigh(0, 200000), 1);
        }
    }

    /** "Grams 0 .. 200000, low not above high: 1. RANGE." */
    private static void limitInRange() {
        for (int c = 0; c < 4; c++) {
            JudoHall x = new JudoHall();
            check.due("widest of " + c, x.limit(c, 0, 200000), 1);
            check.due("least of " + c, x.limit(c, 0, 0), 1);
            check.due("most of " + c, x.limit(c, 200000, 200000), 1);
            check.due("low as high of " + c, x.limit(c, 700, 700), 1);
            check.due("an ACT each", x.count(7), 4);
        }
        refused("class -1", x -> x.limit(-1, 0, 1), Check.RANGE);
        refused("class 4", x -> x.limit(4, 0, 1), Check.RANGE);
        refused("low -1", x -> x.limit(3, -1, 1), Check.RANGE);
        refused("high 200001", x -> x.limit(3, 0, 200001), Check.RANGE);
        refused("both 200001", x -> x.limit(3, 200001, 200001), Check.RANGE);
        refused("both -1", x -> x.limit(3, -1, -1), Check.RANGE);
        refused("low above high", x -> x.limit(3, 701, 700), Check.RANGE);
        refused("least and most ints", x -> x.limit(3, LEAST, MOST), Check.RANGE);
        refused("RANGE ahead of STATE", x -> x.limit(0, 701, 700), Check.RANGE);
    }

    /** "STATE: it is drawn, or has a FIGHTER that was at the scales." */
    private static void limitInState() {
        refused("drawn", x -> x.limit(0, 0, 1), Check.STATE);
        refused("WEIGHED and OUT ones", x -> x.limit(2, 1000, 2000), Check.STATE);
        JudoHall x = new JudoHall();
        x.enter(0, 0);
        x.enter(0, 1);
        check.due("nobody at the scales", x.limit(0, 10, 20), 1);
        x.weigh(1, 5);
        check.due("one of another class was", x.limit(0, 10, 21), 1);
        x.weigh(0, 9);
        check.due("one who is OUT was", x.limit(0, 0, 21), Check.STATE);
        x.undo();
        check.due("taken back", x.limit(0, 0, 21), 1);
        x.weigh(0, 9);
        check.due("one who is WEIGHED was", x.limit(0, 0, 22), Check.STATE);
        check.due("an empty class", x.limit(3, 0, 22), 1);
    }

    private static void limitAndLog() {
        check.act("limit", () -> new JudoHall(), x -> x.limit(1, 5, 6), 1);
        check.aheadOfFull("limit RANGE", () -> new JudoHall(), x -> x.limit(1, 6, 5), Check.RANGE);
        check.aheadOfFull("limit STATE", PeopleEdgesTest::twoOfClass1, x -> x.limit(1, 5, 6), Check.STATE);
    }

    private static JudoHall twoOfClass1() {
        JudoHall x = new JudoHall();
        Check.fill(x, 1, 2);
        return x;
    }

    private static JudoHall drawnClass1() {
        JudoHall x = twoOfClass1();
        x.draw(1);
        return x;
    }

    /** "FIGHTERS are numbered from 0 as they come", whatever their CLASS. */
    private static void numberedAsTheyCome() {
        JudoHall x = new JudoHall();
        for (int k = 0; k < 8; k++) check.due("number " + k, x.enter(k, 3 - k % 4), k);
        for (int k = 0; k < 8; k++) check.due("class of " + k, x.fighter(k, 0), 3 - k % 4);
        for (int c = 0; c < 4; c++) check.due("of class " + c, x.about(c, 0), 2);
        x.undo();
        check.due("the number of one who is gone", x.enter(1, 1), 7);
    }

    /** "At most 96", "FULL: the 97th." */
    private static void atMost96() {
        JudoHall x = new JudoHall();
        for (int k = 0; k < 95; k++) x.enter(0, 0);
        check.due("the 96th", x.enter(15, 3), 95);
        check.due("the 97th", x.enter(0, 0), Check.FULL);
        check.due("FIGHTERS", x.count(0), 96);
        check.due("entries", x.count(7), 96);
        check.due("no 97th is told", x.fighter(96, 0), Check.NONE);
        check.due("no 97th is weighed", x.weigh(96, 5), Check.RANGE);
        check.due("RANGE ahead of FULL", x.enter(16, 0), Check.RANGE);
        x.weigh(94, 5);
        x.weigh(93, 5);
        x.draw(0);
        check.due("STATE ahead of FULL", x.enter(0, 0), Check.STATE);
        check.due("another class has no room either", x.enter(0, 1), Check.FULL);
        for (int k = 0; k < 4; k++) x.undo();
        check.due("room again", x.enter(0, 0), 95);
        check.due("full again", x.enter(0, 0), Check.FULL);
    }

    /** "A CLASS and a club 0 .. 15." */
    private static void enterInRange() {
        for (int club = 0; club < 16; club++) {
            JudoHall x = new JudoHall();
            check.due("club " + club, x.enter(club, club % 4), 0);
            check.due("told", x.fighter(0, 1), club);
        }
        refused("club -1", x -> x.enter(-1, 2), Check.RANGE);
        refused("club 16", x -> x.enter(16, 2), Check.RANGE);
        refused("class -1", x -> x.enter(0, -1), Check.RANGE);
        refused("class 4", x -> x.enter(0, 4), Check.RANGE);
        refused("greatest ints", x -> x.enter(MOST, MOST), Check.RANGE);
        refused("least ints", x -> x.enter(LEAST, LEAST), Check.RANGE);
        refused("RANGE ahead of STATE", x -> x.enter(16, 0), Check.RANGE);
    }

    /** "STATE: the CLASS is drawn." */
    private static void enterInState() {
        refused("a POOL", x -> x.enter(0, 0), Check.STATE);
        refused("a TREE", x -> x.enter(0, 1), Check.STATE);
        check.due("not drawn", Check.busy().enter(0, 2), 13);
        JudoHall x = drawnClass1();
        x.undo();
        check.due("a draw taken back", x.enter(0, 1), 2);
    }

    private static void enterAndLog() {
        check.act("enter", () -> new JudoHall(), x -> x.enter(3, 2), 0);
        check.aheadOfFull("enter RANGE", () -> new JudoHall(), x -> x.enter(3, 4), Check.RANGE);
        check.aheadOfFull("enter STATE", PeopleEdgesTest::drawnClass1, x -> x.enter(3, 1), Check.STATE);
    }

    /** "WEIGHED, if its grams are not below the least and not above the most, else OUT." */
    private static void weighedOrOut() {
        int[][] limits = {{500, 700}, {0, 0}, {200000, 200000}, {1, 199999}, {60000, 60000}};
        for (int[] pair : limits) {
            JudoHall x = new JudoHall();
            x.limit(0, pair[0], pair[1]);
            x.enter(0, 0);
            check.due("the least " + pair[0], x.weigh(0, pair[0]), 1);
            check.due("is WEIGHED", x.fighter(0, 3), 1);
            check.due("the most " + pair[1], x.weigh(0, pair[1]), 1);
            if (pair[0] > 0) {
                check.due("below " + pair[0], x.weigh(0, pair[0] - 1), 0);
                check.due("is OUT", x.fighter(0, 3), 2);
            }
            if (pair[1] < 200000) {
                check.due("above " + pair[1], x.weigh(0, pair[1] + 1), 0);
                check.due("is OUT", x.fighter(0, 3), 2);
                check.due("its grams", x.fighter(0, 2), pair[1] + 1);
            }
        }
    }

    /** "Else OUT (until it is weighed again)." */
    private static void outUntilWeighedAgain() {
        JudoHall x = new JudoHall();
        x.limit(0, 500, 700);
        x.enter(0, 0);
        check.due("not at the scales", x.about(0, 1), 0);
        x.weigh(0, 701);
        check.due("OUT", x.about(0, 1), 0);
        x.weigh(0, 700);
        check.due("WEIGHED", x.about(0, 1), 1);
        x.weigh(0, 499);
        check.due("OUT again", x.about(0, 1), 0);
        check.due("grams of the latest", x.fighter(0, 2), 499);
        x.undo();
        check.due("taken back", x.fighter(0, 3), 1);
        check.due("grams again", x.fighter(0, 2), 700);
    }

    /** "Grams 0 .. 200000", a FIGHTER that is there. */
    private static void weighInRange() {
        refused("fighter -1", x -> x.weigh(-1, 1500), Check.RANGE);
        refused("fighter 13 of 13", x -> x.weigh(13, 1500), Check.RANGE);
        check.due("fighter 12 of 13", Check.busy().weigh(12, 1500), 1);
        refused("grams -1", x -> x.weigh(12, -1), Check.RANGE);
        refused("grams 200001", x -> x.weigh(12, 200001), Check.RANGE);
        check.due("grams 0", Check.busy().weigh(12, 0), 0);
        check.due("grams 200000", Check.busy().weigh(12, 200000), 0);
        refused("greatest ints", x -> x.weigh(MOST, MOST), Check.RANGE);
        refused("least ints", x -> x.weigh(LEAST, LEAST), Check.RANGE);
        refused("RANGE ahead of STATE", x -> x.weigh(0, -1), Check.RANGE);
        check.due("nobody has come", new JudoHall().weigh(0, 5), Check.RANGE);
    }

    /** "STATE: its CLASS is drawn." */
    private static void weighInState() {
        refused("of a POOL", x -> x.weigh(3, 1000), Check.STATE);
        refused("of a TREE", x -> x.weigh(4, 1000), Check.STATE);
        JudoHall x = twoOfClass1();
        x.enter(0, 1);
        x.draw(1);
        check.due("not drawn itself", x.weigh(2, 5), Check.STATE);
        x.undo();
        check.due("a draw taken back", x.weigh(2, 5), 1);
    }

    private static void weighAndLog() {
        check.act("weigh", PeopleEdgesTest::twoOfClass1, x -> x.weigh(1, 77), 1);
        check.aheadOfFull("weigh RANGE", PeopleEdgesTest::twoOfClass1, x -> x.weigh(2, 77), Check.RANGE);
        check.aheadOfFull("weigh STATE", PeopleEdgesTest::drawnClass1, x -> x.weigh(1, 77), Check.STATE);
    }

    /** "SEED 1 .. 8", "0: none any more". */
    private static void seedInRange() {
        JudoHall x = twoOfClass1();
        int was = 0;
        for (int k = 1; k <= 8; k++) {
            check.due("seed " + k, x.seed(0, k), was);
            check.due("told", x.fighter(0, 4), k);
            was = k;
        }
        check.due("none any more", x.seed(0, 0), 8);
        check.due("told none", x.fighter(0, 4), 0);
        check.due("none twice", x.seed(0, 0), 0);
        refused("seed -1", y -> y.seed(12, -1), Check.RANGE);
        refused("seed 9", y -> y.seed(12, 9), Check.RANGE);
        refused("fighter -1", y -> y.seed(-1, 2), Check.RANGE);
        refused("fighter 13 of 13", y -> y.seed(13, 2), Check.RANGE);
        check.due("fighter 12 of 13", Check.busy().seed(12, 2), 0);
        refused("greatest ints", y -> y.seed(MOST, MOST), Check.RANGE);
        refused("least ints", y -> y.seed(LEAST, LEAST), Check.RANGE);
        refused("RANGE ahead of STATE", y -> y.seed(0, 9), Check.RANGE);
    }

    /** "STATE: .. another one of it is that SEED." */
    private static void seedOfAnother() {
        refused("another one's", x -> x.seed(11, 1), Check.STATE);
        JudoHall x = Check.busy();
        check.due("its own again", x.seed(10, 1), 1);
        check.due("a free one", x.seed(11, 2), 0);
        check.due("the seed of one who is OUT", x.seed(12, 2), Check.STATE);
        check.due("given back", x.seed(11, 0), 2);
        check.due("free now", x.seed(12, 2), 0);
        check.due("none is nobody's", x.seed(11, 0), 0);
        check.due("a FIGHTER of another class", x.seed(x.enter(0, 3), 1), 0);
        check.due("of one who has left it for another", x.seed(10, 3), 1);
        check.due("taken by another", x.seed(11, 1), 0);
    }

    /** "STATE: the CLASS is drawn." */
    private static void seedInState() {
        refused("of a POOL", x -> x.seed(3, 5), Check.STATE);
        refused("of a TREE", x -> x.seed(4, 5), Check.STATE);
        refused("none, of a TREE", x -> x.seed(4, 0), Check.STATE);
        JudoHall x = drawnClass1();
        x.undo();
        check.due("a draw taken back", x.seed(0, 5), 0);
    }

    private static void seedAndLog() {
        check.act("seed", PeopleEdgesTest::twoOfClass1, x -> x.seed(1, 8), 0);
        check.act("seed 0", PeopleEdgesTest::twoOfClass1, x -> x.seed(1, 0), 0);
        check.aheadOfFull("seed RANGE", PeopleEdgesTest::twoOfClass1, x -> x.seed(1, 9), Check.RANGE);
        check.aheadOfFull("seed STATE", PeopleEdgesTest::drawnClass1, x -> x.seed(1, 8), Check.STATE);
    }

    private static void drawInRange() {
        refused("class -1", x -> x.draw(-1), Check.RANGE);
        refused("class 4", x -> x.draw(4), Check.RANGE);
        refused("greatest int", x -> x.draw(MOST), Check.RANGE);
        refused("least int", x -> x.draw(LEAST), Check.RANGE);
        for (int c = 0; c < 4; c++) {
            JudoHall x = new JudoHall();
            Check.fill(x, c, 2);
            check.due("class " + c, x.draw(c), 1);
        }
    }

    /** "STATE: it is drawn." */
    private static void drawInState() {
        refused("a POOL", x -> x.draw(0), Check.STATE);
        refused("a TREE", x -> x.draw(1), Check.STATE);
        JudoHall x = drawnClass1();
        x.undo();
        check.due("a draw taken back", x.draw(1), 1);
    }

    /** "NONE: less than 2, or more than 32, are WEIGHED." */
    private static void howManyAreDrawn() {
        refused("one WEIGHED of three", x -> x.draw(2), Check.NONE);
        refused("nobody", x -> x.draw(3), Check.NONE);
        int[] fights = new int[34];
        for (int n = 0; n < 34; n++) fights[n] = n < 2 || n > 32 ? Check.NONE : n < 6 ? n * (n - 1) / 2 : n < 9 ? 9 : n < 17 ? 19 : 37;
        for (int n = 0; n < 34; n++) {
            JudoHall x = new JudoHall();
            Check.fill(x, 3, n);
            check.due("draw of " + n, x.draw(3), fights[n]);
            check.due("kind of " + n, x.about(3, 2), fights[n] == Check.NONE ? 0 : n < 6 ? 1 : 2);
            check.due("entries of " + n, x.count(7), 2 * n + (fights[n] == Check.NONE ? 0 : 1));
        }
    }

    /** "THE DRAW is of its WEIGHED ones": who is OUT, or wasn't at the scales, makes none more, and none less. */
    private static void onlyWeighedOnesAreDrawn() {
        JudoHall x = new JudoHall();
        x.limit(0, 100, 200);
        for (int f = 0; f < 34; f++) x.enter(f % 16, 0);
        for (int f = 0; f < 33; f++) x.weigh(f, 100);
        check.due("33 WEIGHED", x.draw(0), Check.NONE);
        x.weigh(5, 99);
        check.due("32 WEIGHED of 34", x.draw(0), 37);
        check.due("who is OUT has no PLACE", x.fighter(5, 5), Check.NONE);
        check.due("who wasn't there has none", x.fighter(33, 5), Check.NONE);
        JudoHall y = new JudoHall();
        y.limit(0, 100, 200);
        for (int f = 0; f < 6; f++) y.enter(0, 0);
        y.weigh(1, 150);
        y.weigh(3, 201);
        check.due("1 WEIGHED of 6", y.draw(0), Check.NONE);
        y.weigh(4, 200);
        check.due("2 WEIGHED of 6", y.draw(0), 1);
        check.due("WHITE", y.fight(0, 0, 0), 1);
        check.due("BLUE", y.fight(0, 0, 1), 4);
    }

    private static void drawAndLog() {
        check.act("draw", PeopleEdgesTest::twoOfClass1, x -> x.draw(1), 1);
        check.aheadOfFull("draw RANGE", PeopleEdgesTest::twoOfClass1, x -> x.draw(4), Check.RANGE);
        check.aheadOfFull("draw STATE", PeopleEdgesTest::drawnClass1, x -> x.draw(1), Check.STATE);
        check.aheadOfFull("draw NONE", PeopleEdgesTest::twoOfClass1, x -> x.draw(0), Check.NONE);
    }

    /** "When a CLASS is drawn all this stays for its FIGHTERS": also when all its FIGHTS are DONE. */
    private static void drawnStays() {
        JudoHall x = Check.drawn(0, 2);
        Check.win(x, 0, 0, 0);
        check.due("enter", x.enter(0, 0), Check.STATE);
        check.due("weigh", x.weigh(0, 5), Check.STATE);
        check.due("seed", x.seed(0, 5), Check.STATE);
        check.due("limit", x.limit(0, 0, 5), Check.STATE);
        check.due("draw", x.draw(0), Check.STATE);
        check.due("grams", x.fighter(0, 2), 1000);
    }

    /** "NONE when there is none such." */
    private static void fighterOfAnotherWhat() {
        JudoHall x = Check.busy();
        for (int what : new int[] {-1, 7, LEAST, MOST}) check.due("what " + what, x.fighter(0, what), Check.NONE);
        for (int f : new int[] {-1, 13, 96, LEAST, MOST}) check.due("fighter " + f, x.fighter(f, 0), Check.NONE);
        check.due("the last one", x.fighter(12, 0), 2);
        check.due("what 6", x.fighter(0, 6), 0);
        check.due("what 0", x.fighter(0, 0), 0);
    }

    /** "(NONE ahead of the scales)", "0 it wasn't at the scales", "SEED (0)", "(NONE ahead of the draw)", "(NONE)". */
    private static void fighterAheadAndBehind() {
        JudoHall x = new JudoHall();
        Check.laws(x, Check.IPPON);
        x.enter(9, 1);
        int[] ahead = {1, 9, Check.NONE, 0, 0, Check.NONE, Check.NONE};
        for (int w = 0; w < 7; w++) check.due("ahead " + w, x.fighter(0, w), ahead[w]);
        x.weigh(0, 0);
        x.seed(0, 8);
        x.weigh(x.enter(3, 1), 0);
        x.draw(1);
        x.begin(1, 0, 0);
        int[] open = {1, 9, 0, 1, 8, 0, Check.NONE};
        for (int w = 0; w < 7; w++) check.due("OPEN " + w, x.fighter(0, w), open[w]);
        x.event(0, 0, 0);
        check.due("ended in minute 0", x.fighter(0, 6), 0);
        check.due("the second of the POOL", x.fighter(1, 5), 1);
        x.undo();
        check.due("no end", x.fighter(0, 6), Check.NONE);
    }

    /** "NONE when there is none such." */
    private static void aboutOfAnotherWhat() {
        JudoHall x = Check.busy();
        for (int what : new int[] {-1, 7, 8, 99, LEAST, MOST}) check.due("what " + what, x.about(1, what), Check.NONE);
        for (int c : new int[] {-1, 4, LEAST, MOST}) {
            for (int what = 0; what < 7; what++) check.due("class " + c, x.about(c, what), Check.NONE);
            check.due("place of class " + c, x.about(c, 100), Check.NONE);
        }
    }

    /** "2: 0 not drawn, 1 POOL, 2 TREE, 3: S (of a POOL how many), 4: FIGHTS, 5: FIGHTS that are DONE, 6: WALKS." */
    private static void aboutAheadAndBehind() {
        JudoHall x = Check.busy();
        int[][] want = {{4, 4, 1, 4, 6, 1, 0}, {6, 6, 2, 8, 9, 0, 2}, {3, 1, 0, Check.NONE, 0, 0, 0}, {0, 0, 0, Check.NONE, 0, 0, 0}};
        for (int c = 0; c < 4; c++) {
            for (int w = 0; w < 7; w++) check.due("about(" + c + ", " + w + ")", x.about(c, w), want[c][w]);
        }
    }

    /** "100 + p: who is on PLACE p (NONE: BYE)." */
    private static void aboutPlaces() {
        for (int n : new int[] {8, 16, 32}) {
            JudoHall x = new JudoHall();
            Check.fill(x, 2, n);
            check.due("ahead of the draw", x.about(2, 100), Check.NONE);
            x.draw(2);
            check.due("PLACE 0", x.about(2, 100), 0);
            int last = x.about(2, 100 + n - 1);
            check.due("the last PLACE is of its FIGHTER", x.fighter(last, 5), n - 1);
            check.due("behind the last", x.about(2, 100 + n), Check.NONE);
            check.due("PLACE 32", x.about(2, 132), Check.NONE);
            check.due("ahead of the first", x.about(2, 99), Check.NONE);
        }
        JudoHall y = Check.busy();
        check.due("a BYE", y.about(1, 101), Check.NONE);
        check.due("no BYE", y.about(1, 102), 8);
        check.due("a POOL has no PLACES", y.about(0, 100), Check.NONE);
    }

    /** Two CLASSES of 32 and two with limits of their own: none takes from another. */
    private static JudoHall sideBySide() {
        JudoHall x = new JudoHall();
        for (int c = 0; c < 4; c++) x.limit(c, 10 + c, 20 + c);
        Check.laws(x, Check.IPPON);
        for (int f = 0; f < 64; f++) x.weigh(x.enter(f % 16, f % 2), 15);
        x.draw(0);
        x.draw(1);
        return x;
    }

    private static void fullClassesSideBySide() {
        JudoHall x = sideBySide();
        check.due("lines", x.count(4), 1);
        for (int c = 2; c < 4; c++) {
            int f = x.enter(c, c);
            check.due("below the least of " + c, x.weigh(f, 9 + c), 0);
            check.due("the least of " + c, x.weigh(f, 10 + c), 1);
            check.due("the most of " + c, x.weigh(f, 20 + c), 1);
            check.due("above the most of " + c, x.weigh(f, 21 + c), 0);
        }
        for (int c = 0; c < 2; c++) {
            for (int p = 0; p < 32; p++) check.due("PLACE " + p + " of " + c, x.fighter(x.about(c, 100 + p), 5), p);
        }
        JudoHall y = sideBySide();
        for (int i = 0; i < 37; i++) Check.win(y, 0, i, 0);
        check.due("all of class 0 but those who rest", y.about(0, 5), 16);
        check.due("none of class 1", y.about(1, 5), 0);
        JudoHall z = sideBySide();
        z.rest(0);
        for (int i = 0; i < 37; i++) check.due("fight " + i, Check.win(z, 0, i, 0), 0);
        for (int i = 0; i < 37; i++) check.due("state of " + i + " of class 1", z.fight(1, i, 3), i < 16 ? 1 : 0);
        for (int i = 0; i < 16; i++) check.due("WHITE of " + i + " of class 1", z.fight(1, i, 0), z.about(1, 100 + 2 * i));
        check.due("all of class 0", z.about(0, 5), 37);
    }

    /** 96 FIGHTERS in the last three CLASSES, and all FIGHTS of the last: the first and the last of all are as they came. */
    private static void fullHouse() {
        JudoHall x = new JudoHall();
        Check.laws(x, Check.IPPON);
        x.rest(0);
        for (int f = 0; f < 96; f++) x.weigh(x.enter(f % 16, 1 + f % 3), 70000 + f);
        for (int c = 1; c < 4; c++) check.due("draw of " + c, x.draw(c), 37);
        x.now(9);
        for (int i = 0; i < 37; i++) {
            check.due("begin " + i, x.begin(3, i, i % 4), 1);
            check.due("event " + i, x.event(i % 4, 1, 0), 0);
        }
        for (int f = 0; f < 96; f += 95) {
            int[] want = {1 + f % 3, f % 16, 70000 + f, 1, 0};
            for (int w = 0; w < want.length; w++) check.due("fighter(" + f + ", " + w + ")", x.fighter(f, w), want[w]);
        }
        check.due("end of the first", x.fighter(0, 6), Check.NONE);
        check.due("end of the last", x.fighter(95, 6), 9);
        for (int p = 0; p < 32; p++) check.due("PLACE " + p, x.fighter(x.about(3, 100 + p), 5), p);
        for (int i = 0; i < 37; i++) check.due("winner of " + i, x.fight(3, i, 2), x.fight(3, i, 1));
        check.due("none of CLASS 1", x.about(1, 5), 0);
    }
}
