/** Each edge that Terms I and III and promises 21 and 22 name for results that are struck, and for medals, on both sides. */
public final class ResultEdgesTest {
    private static final Check check = new Check("ResultEdgesTest");
    private static final int LEAST = Integer.MIN_VALUE, MOST = Integer.MAX_VALUE;
    private static final Check.Made busy = Check::busy;
    private static final String TWO = "time 9;golden 0;sign a;sign b;win 20 when mine a>0;win 7 when mine b>0;";

    public static void main(String[] args) {
        strikeInRange();
        strikeInState();
        strikeAndLog();
        nothingHungOnIt();
        allThatHungOnIt();
        stepsThatHungOnIt();
        openOnesAreBrokenOff();
        walksAsResultsTell();
        struckAndFoughtAgain();
        undoOfAStrike();
        medalOfNone();
        medalsOfATree();
        medalsOfAPoolWhenAllIsDone();
        firstByWins();
        winsAheadOfPointsAlike();
        thenByPoints();
        thenWhoWonOfBoth();
        justTwoAlike();
        thenByGrams();
        thenByNumber();
        pointsOfNone();
        orderOfOtherResults();
        poolAmongOthers();
        twoAlikeWhateverTheirNumbers();
        poolBehindATreeTakenBack();
        strikeInTheLastClass();
        besideAFullClass();
        check.end();
    }

    private static void refused(String what, Check.Call call, int want) { check.refused(what, busy, call, want); }

    /** "RANGE: no such FIGHT." */
    private static void strikeInRange() {
        refused("class -1", x -> x.strike(-1, 0), Check.RANGE);
        refused("class 4", x -> x.strike(4, 0), Check.RANGE);
        refused("class not drawn", x -> x.strike(2, 0), Check.RANGE);
        refused("fight -1", x -> x.strike(0, -1), Check.RANGE);
        refused("fight 6 of 6", x -> x.strike(0, 6), Check.RANGE);
        refused("fight 9 of 9", x -> x.strike(1, 9), Check.RANGE);
        refused("greatest ints", x -> x.strike(MOST, MOST), Check.RANGE);
        refused("least ints", x -> x.strike(LEAST, LEAST), Check.RANGE);
    }

    /** "STATE: it is not DONE." */
    private static void strikeInState() {
        refused("READY", x -> x.strike(0, 5), Check.STATE);
        refused("OPEN", x -> x.strike(0, 1), Check.STATE);
        refused("OPEN, and waits", x -> x.strike(1, 1), Check.STATE);
        refused("a WALK", x -> x.strike(1, 0), Check.STATE);
        refused("OFF", x -> x.strike(1, 8), Check.STATE);
        JudoHall x = Check.busy();
        check.due("DONE", x.strike(0, 0), 1);
        check.due("DONE no more", x.strike(0, 0), Check.STATE);
    }

    /** The first FIGHT of two, ended by a DECISION as it began: few calls leave room for THE LOG's 500. */
    private static JudoHall decided() {
        JudoHall x = new JudoHall();
        // "time 0;golden 0;win when over;"
        x.feed(0x74696d65, 0x20303b67, 0x6f6c6465, 0x6e20303b, 0x77696e20);
        x.feed(0x7768656e, 0x206f7665, 0x723b2020, 0x20202020, 0x20202020);
        x.laws();
        Check.fill(x, 0, 2);
        x.draw(0);
        x.begin(0, 0, 0);
        x.decide(0, 1);
        return x;
    }

    private static void strikeAndLog() {
        check.act("strike", ResultEdgesTest::decided, x -> x.strike(0, 0), 1);
        check.aheadOfFull("strike RANGE", ResultEdgesTest::decided, x -> x.strike(0, 1), Check.RANGE);
        Check.Made struck = () -> {
            JudoHall x = decided();
            x.strike(0, 0);
            return x;
        };
        check.aheadOfFull("strike STATE", struck, x -> x.strike(0, 0), Check.STATE);
    }

    /** A tree, or pool, of so many in which WHITE has won each FIGHT that is none of the WALKS. */
    private static JudoHall fought(int many) {
        JudoHall x = Check.drawn(0, many);
        for (int i = 0; i < x.about(0, 4); i++) Check.win(x, 0, i, 0);
        return x;
    }

    /** "How many results .. are gone, it with them": 1 where none hangs on it. */
    private static void nothingHungOnIt() {
        for (int n = 2; n <= 5; n++) {
            JudoHall x = fought(n);
            int fights = x.about(0, 4);
            for (int i = 0; i < fights; i++) check.due("of a POOL", x.strike(0, i), 1);
            check.due("all are gone", x.about(0, 5), 0);
        }
        for (int size : new int[] {8, 16, 32}) {
            JudoHall x = fought(size);
            check.due("all DONE", x.about(0, 5), x.about(0, 4));
            check.due("the FINAL of " + size, x.strike(0, size - 2), 1);
            check.due("it is READY", x.fight(0, size - 2, 3), 1);
            check.due("a last step", x.strike(0, x.about(0, 4) - 1), 1);
            check.due("the rest stays", x.about(0, 5), x.about(0, 4) - 2);
        }
    }

    /** "And so on, till there is none such": a result of round r takes its way to the FINAL and its half's second lives. */
    private static void allThatHungOnIt() {
        for (int size : new int[] {8, 16, 32}) {
            int rounds = size == 8 ? 3 : size == 16 ? 4 : 5;
            int first = 0;
            for (int r = 0; r < rounds - 1; r++) {
                int fights = size >> (r + 1);
                int[] some = {first, first + fights / 2 - 1, first + fights / 2, first + fights - 1};
                for (int i : some) {
                    JudoHall x = fought(size);
                    int gone = rounds - r + rounds - 2;
                    check.due("strike of " + i + " of " + size, x.strike(0, i), gone);
                    check.due("left", x.about(0, 5), x.about(0, 4) - gone);
                    check.due("it is READY", x.fight(0, i, 3), 1);
                    check.due("the FINAL is OFF", x.fight(0, size - 2, 3), 0);
                    boolean lower = i < first + fights / 2;
                    int[] steps = {size - 1, size - 1 + rounds - 2};
                    check.due("lives of 0", x.fight(0, steps[0], 3), lower ? 0 : 3);
                    check.due("lives of 1", x.fight(0, steps[1], 3), lower ? 3 : 0);
                }
                first += fights;
            }
        }
    }

    /** A step takes those behind it, of its finalist alone. */
    private static void stepsThatHungOnIt() {
        for (int s = 0; s < 2; s++) {
            for (int t = 1; t <= 3; t++) {
                JudoHall x = fought(32);
                check.due("step " + t + " of " + s, x.strike(0, 30 + 3 * s + t), 4 - t);
                check.due("the FINAL stays", x.fight(0, 30, 3), 3);
                check.due("third of " + s, x.medal(0, 2 + s), Check.NONE);
                check.due("third of the other", x.medal(0, 3 - s) == Check.NONE ? 0 : 1, 1);
            }
        }
    }

    /** "And OPEN FIGHTS": one that goes on and one that waits; no others. */
    private static void openOnesAreBrokenOff() {
        JudoHall x = Check.drawn(0, 8);
        for (int i = 0; i < 6; i++) Check.win(x, 0, i, 0);
        x.begin(0, 6, 3);
        x.begin(0, 7, 0);
        x.begin(0, 8, 1);
        x.tick(0, 9);
        check.due("waits", x.mat(0, 4), 1);
        x.now(77);
        check.due("with the FINAL and a step", x.strike(0, 4), 3);
        check.due("OPEN ones", x.count(6), 1);
        check.due("MAT 3 is free", x.mat(3, 0), Check.NONE);
        check.due("MAT 0 is free", x.mat(0, 0), Check.NONE);
        check.due("MAT 1 is not", x.mat(1, 1), 8);
        check.due("of the FINAL", x.fighter(2, 6), 77);
        check.due("of the step", x.fighter(7, 6), 77);
        check.due("of the other step", x.fighter(5, 6), 0);
        check.due("no result counts twice", x.about(0, 5), 5);
        JudoHall y = Check.busy();
        check.due("of a POOL none is broken off", y.strike(0, 0), 1);
        check.due("OPEN ones of the POOL", y.count(6), 2);
    }

    /** "WALKS are as results tell": none is a result, and none is counted. */
    private static void walksAsResultsTell() {
        JudoHall x = Check.drawn(0, 7);
        Check.win(x, 0, 1, 0);
        Check.win(x, 0, 4, 0);
        check.due("third by a WALK", x.medal(0, 2), x.about(0, 102));
        check.due("the result alone", x.strike(0, 4), 1);
        check.due("no WALK", x.fight(0, 7, 3), 0);
        check.due("no third", x.medal(0, 2), Check.NONE);
        Check.win(x, 0, 4, 1);
        check.due("a FIGHT now", x.fight(0, 7, 3), 1);
        JudoHall y = Check.drawn(0, 9);
        for (int i : new int[] {10, 11, 13}) Check.win(y, 0, i, 0);
        Check.win(y, 0, 18, 0);
        check.due("step 2 hung on a WALK", y.strike(0, 10), 3);
        check.due("the BYES' WALKS stay", y.about(0, 6), 7);
    }

    /** With the same winner again what hung on the result is not there again. */
    private static void struckAndFoughtAgain() {
        JudoHall x = fought(8);
        check.due("struck", x.strike(0, 0), 4);
        check.due("again", Check.win(x, 0, 0, 0), 0);
        check.due("round 1 is READY", x.fight(0, 4, 3), 1);
        check.due("no winner of it", x.fight(0, 4, 2), Check.NONE);
        check.due("no line of it", x.fight(0, 4, 4), Check.NONE);
        check.due("no POINTS of it", x.fight(0, 4, 5), 0);
        check.due("no minute of it", x.fight(0, 4, 7), Check.NONE);
        for (int i : new int[] {4, 6, 7}) check.due("fought again", Check.win(x, 0, i, 1), 0);
        check.due("all DONE", x.about(0, 5), 9);
        check.due("another one is first", x.medal(0, 0), 2);
    }

    /** One ACT, so one undo brings all back. */
    private static void undoOfAStrike() {
        JudoHall x = Check.drawn(0, 8);
        for (int i = 0; i < 6; i++) Check.win(x, 0, i, 0);
        x.begin(0, 6, 2);
        x.tick(2, 4);
        int entries = x.count(7);
        x.now(50);
        check.due("gone", x.strike(0, 0), 3);
        check.due("one entry", x.count(7), entries + 2);
        check.due("undo", x.undo(), entries + 1);
        check.due("results", x.about(0, 5), 6);
        check.due("on its MAT", x.mat(2, 1), 6);
        check.due("LEFT", x.mat(2, 2), 5);
        check.due("the end", x.fighter(0, 6), 0);
        check.due("it goes on", x.event(2, 1, 0), 0);
    }

    /** "NONE: not known, or there is none such." */
    private static void medalOfNone() {
        JudoHall x = Check.busy();
        for (int c : new int[] {-1, 2, 3, 4, LEAST, MOST}) check.due("class " + c, x.medal(c, 0), Check.NONE);
        for (int k = -1; k < 6; k++) check.due("of a POOL, not known", x.medal(0, k), Check.NONE);
        for (int k = -1; k < 6; k++) check.due("of a TREE, not known", x.medal(1, k), Check.NONE);
        for (int grams = 0; grams < 3; grams++) {
            JudoHall y = new JudoHall();
            y.weigh(y.enter(0, 0), grams);
            for (int c = -1; c < 5; c++) check.due("nothing is drawn: class " + c, y.medal(c, 0), Check.NONE);
        }
    }

    /** "Of a TREE 0 the winner of the FINAL, 1 who lost it, 2, 3 who is third." */
    private static void medalsOfATree() {
        JudoHall x = Check.drawn(0, 8);
        for (int i = 0; i < 5; i++) Check.win(x, 0, i, 0);
        check.due("one finalist is known, no first", x.medal(0, 0), Check.NONE);
        check.due("one finalist is known, no second", x.medal(0, 1), Check.NONE);
        Check.win(x, 0, 5, 0);
        for (int k = 0; k < 4; k++) check.due("the FINAL and the steps are READY", x.medal(0, k), Check.NONE);
        x.begin(0, 6, 0);
        for (int k = 0; k < 4; k++) check.due("the FINAL is OPEN", x.medal(0, k), Check.NONE);
        x.event(0, 1, 0);
        check.due("first", x.medal(0, 0), 2);
        check.due("second", x.medal(0, 1), 0);
        check.due("no third yet", x.medal(0, 2), Check.NONE);
        Check.win(x, 0, 8, 1);
        check.due("third of finalist 0 is not known", x.medal(0, 2), Check.NONE);
        check.due("third of finalist 1", x.medal(0, 3), 6);
        Check.win(x, 0, 7, 0);
        check.due("third of finalist 0", x.medal(0, 2), 7);
        for (int k : new int[] {-1, 4, 5, LEAST, MOST}) check.due("medal " + k, x.medal(0, k), Check.NONE);
        JudoHall y = Check.drawn(0, 16);
        for (int i = 0; i < 16; i++) Check.win(y, 0, i, 0);
        check.due("a step is not the last", y.medal(0, 2), Check.NONE);
        Check.win(y, 0, 16, 0);
        check.due("the last step", y.medal(0, 2), y.fight(0, 16, 0));
    }

    /** "Of a POOL by its order, when all is DONE." */
    private static void medalsOfAPoolWhenAllIsDone() {
        for (int n = 2; n <= 5; n++) {
            JudoHall x = Check.drawn(0, n);
            int last = x.about(0, 4) - 1;
            for (int i = 0; i < last; i++) Check.win(x, 0, i, 0);
            check.due("the last is READY", x.medal(0, 0), Check.NONE);
            x.begin(0, last, 0);
            check.due("the last is OPEN", x.medal(0, 0), Check.NONE);
            x.event(0, 0, 0);
            // WHITE has won each: i has won of all above it
            for (int k = 0; k < n; k++) check.due("medal " + k + " of " + n, x.medal(0, k), k);
            for (int k : new int[] {-1, n, 5, LEAST, MOST}) check.due("medal " + k + " of " + n, x.medal(0, k), Check.NONE);
            x.strike(0, 0);
            check.due("one is struck", x.medal(0, n - 1), Check.NONE);
        }
    }

    /** A POOL with these grams; winners by FIGHT, and which sign each won by (0: 20 POINTS, 1: 7). */
    private static JudoHall pool(int[] grams, int[] winners, int[] signs) {
        JudoHall x = new JudoHall();
        Check.laws(x, TWO);
        x.rest(0);
        for (int g : grams) x.weigh(x.enter(0, 0), g);
        x.draw(0);
        for (int i = 0; i < winners.length; i++) {
            x.begin(0, i, 0);
            x.event(0, winners[i] == x.fight(0, i, 0) ? 0 : 1, signs[i]);
        }
        return x;
    }

    private static void order(String what, JudoHall x, int... want) {
        for (int k = 0; k < want.length; k++) check.due(what + ", medal " + k, x.medal(0, k), want[k]);
    }

    // pairs of 3: 01 12 02; of 4: 01 12 23 02 13 03

    /** "By how many fights one has won": two with 7 POINTS are more than one with 20. */
    private static void firstByWins() {
        JudoHall x = pool(new int[] {1, 1, 9}, new int[] {0, 2, 2}, new int[] {0, 1, 1});
        order("by wins", x, 2, 0, 1);
    }

    /** Of two with as many POINTS but not as many wins, who won of both does not count. */
    private static void winsAheadOfPointsAlike() {
        JudoHall x = new JudoHall();
        Check.laws(x, "time 9;golden 0;sign a;sign b;win 20 when mine a>0;win 10 when mine b>0;");
        x.rest(0);
        for (int f = 0; f < 4; f++) x.weigh(x.enter(0, 0), 1);
        x.draw(0);
        int[] sides = {1, 1, 0, 0, 1, 0};
        int[] signs = {0, 0, 0, 1, 1, 1};
        for (int i = 0; i < 6; i++) {
            x.begin(0, i, 0);
            x.event(0, sides[i], signs[i]);
        }
        // wins and POINTS: 0 has 2 and 20, 1 has 1 and 20 and won of 0, 2 has 2 and 40, 3 has 1 and 10
        order("as many POINTS", x, 2, 0, 1, 3);
    }

    /** "Then the sum of POINTS": one POINT more is enough, and outdoes who won of both. */
    private static void thenByPoints() {
        JudoHall x = pool(new int[] {1, 1, 1}, new int[] {0, 1, 2}, new int[] {1, 1, 0});
        order("of three with one win", x, 2, 0, 1);
        // 0 and 1 have two wins each; 0 won of both, but by 7 and 7
        JudoHall y = pool(new int[] {1, 1, 1, 1}, new int[] {0, 1, 2, 0, 1, 3}, new int[] {1, 0, 0, 1, 0, 0});
        order("of two with two wins", y, 1, 0, 2, 3);
    }

    /** "Then, of just two alike so far, who won of both": though it has more grams and the greater number. */
    private static void thenWhoWonOfBoth() {
        JudoHall x = pool(new int[] {1, 9, 1, 9}, new int[] {1, 1, 2, 0, 3, 0}, new int[] {0, 0, 0, 0, 0, 0});
        // 0 and 1 have two wins and 40, 2 and 3 one and 20: 1 won of 0, 2 won of 3
        order("two pairs alike", x, 1, 0, 2, 3);
        JudoHall y = pool(new int[] {1, 9}, new int[] {1}, new int[] {0});
        order("of two", y, 1, 0);
    }

    /** "Just two": of three alike who won of whom does not count, even where one of them won of both others. */
    private static void justTwoAlike() {
        // 0 beat 1, 1 beat 2, 2 beat 0, all beat 3: three alike
        JudoHall x = pool(new int[] {5, 5, 5, 5}, new int[] {0, 1, 2, 2, 1, 0}, new int[] {0, 0, 0, 0, 0, 0});
        order("three alike", x, 0, 1, 2, 3);
        // 3 won all; 0, 1, 2 have one win each: 0 of 1, 1 of 2, 2 of 0
        JudoHall y = pool(new int[] {7, 6, 5, 5}, new int[] {0, 1, 3, 2, 3, 3}, new int[] {0, 0, 0, 0, 0, 0});
        order("three alike behind one", y, 3, 2, 1, 0);
    }

    /** "Then fewer grams": one gram is enough. */
    private static void thenByGrams() {
        JudoHall x = pool(new int[] {1001, 1000, 1002}, new int[] {0, 1, 2}, new int[] {0, 0, 0});
        order("by grams", x, 1, 0, 2);
    }

    /** "Then the lesser number." */
    private static void thenByNumber() {
        JudoHall x = pool(new int[] {1000, 1000, 1000}, new int[] {0, 1, 2}, new int[] {0, 0, 0});
        order("by numbers", x, 0, 1, 2);
        JudoHall y = pool(new int[] {1000, 999, 1000}, new int[] {1, 2, 0}, new int[] {1, 1, 1});
        order("grams, then numbers", y, 1, 0, 2);
    }

    /** A DECISION is a win with POINTS 0. */
    private static void pointsOfNone() {
        JudoHall x = pool(new int[] {1, 1, 1}, new int[] {0, 1}, new int[] {1, 1});
        x.begin(0, 2, 0);
        x.tick(0, 9);
        x.decide(0, 1);
        // one win each: 0 and 1 have 7 each, 2 has none; 0 won of 1
        order("by a DECISION", x, 0, 1, 2);
    }

    /** The order is that of the results of now, whatever was asked before. */
    private static void orderOfOtherResults() {
        JudoHall x = pool(new int[] {1, 1, 1}, new int[] {0, 1, 0}, new int[] {0, 0, 0});
        for (int k = 0; k < 5; k++) order("ahead", x, 0, 1, 2);
        x.strike(0, 2);
        x.strike(0, 0);
        x.begin(0, 0, 0);
        x.event(0, 1, 1);
        x.begin(0, 2, 0);
        x.event(0, 1, 1);
        // 1 has two wins now, 2 one, 0 none
        order("behind", x, 1, 2, 0);
        JudoHall y = pool(new int[] {1, 1, 1}, new int[] {0, 1, 2}, new int[] {0, 1, 1});
        for (int k = 0; k < 5; k++) order("ahead, one win each", y, 0, 1, 2);
        y.strike(0, 0);
        y.begin(0, 0, 0);
        y.event(0, 0, 1);
        y.strike(0, 2);
        y.begin(0, 2, 0);
        y.event(0, 1, 0);
        // 2 has 20 POINTS now, 0 and 1 have 7: 0 won of both
        order("behind, one win each", y, 2, 0, 1);
    }

    /** Who is not of the POOL has no place in its order, not even behind all who have won. */
    private static void poolAmongOthers() {
        JudoHall x = new JudoHall();
        Check.laws(x, Check.IPPON);
        x.rest(0);
        x.weigh(x.enter(0, 0), 1);
        Check.fill(x, 1, 3);
        x.draw(1);
        Check.win(x, 1, 0, 0);
        Check.win(x, 1, 1, 0);
        Check.win(x, 1, 2, 1);
        int[] want = {1, 2, 3, Check.NONE, Check.NONE};
        for (int k = 0; k < want.length; k++) check.due("one win each, medal " + k, x.medal(1, k), want[k]);
    }

    /** "Of just two alike so far, who won of both": also when others have come ahead of those of the POOL. */
    private static void twoAlikeWhateverTheirNumbers() {
        for (int ahead = 0; ahead < 7; ahead++) {
            for (int c = 0; c < 4; c++) {
                JudoHall x = new JudoHall();
                Check.laws(x, Check.IPPON);
                x.rest(0);
                for (int k = 0; k < ahead; k++) x.enter(0, (c + 1) % 4);
                for (int grams : new int[] {1, 9, 1, 9}) x.weigh(x.enter(0, c), grams);
                x.draw(c);
                int[] sides = {1, 0, 0, 0, 1, 0};
                for (int i = 0; i < 6; i++) Check.win(x, c, i, sides[i]);
                // two wins each have 0 and 1, of which 1 won of both; one each 2 and 3, of which 2 won
                int[] want = {1, 0, 2, 3};
                for (int k = 0; k < 4; k++) check.due("behind " + ahead + " in " + c + ", medal " + k, x.medal(c, k), ahead + want[k]);
            }
        }
    }

    /** A TREE's WALKS, and who was to meet in it, are gone when its draw is taken back: those who are left make a POOL. */
    private static void poolBehindATreeTakenBack() {
        for (int n = 2; n <= 5; n++) {
            JudoHall x = new JudoHall();
            Check.laws(x, Check.IPPON);
            x.rest(0);
            x.limit(0, 0, 5);
            for (int f = 0; f < 6; f++) x.weigh(x.enter(0, 0), 5);
            x.draw(0);
            check.due("WALKS of the TREE", x.about(0, 6), 2);
            x.undo();
            for (int f = n; f < 6; f++) x.weigh(f, 6);
            check.due("a POOL of " + n, x.draw(0), n * (n - 1) / 2);
            check.due("no WALKS", x.about(0, 6), 0);
            check.due("nobody on a PLACE", x.fighter(n, 5), Check.NONE);
            // of three each wins once, so a WALK of one who had a BYE would be told; of others BLUE wins all
            for (int i = 0; i < x.about(0, 4); i++) Check.win(x, 0, i, n == 3 && i < 2 ? 0 : 1);
            for (int k = 0; k < n; k++) check.due("medal " + k + " of " + n, x.medal(0, k), n == 3 ? k : n - 1 - k);
            check.due("none behind the last", x.medal(0, n), Check.NONE);
        }
    }

    /** The last FIGHT of the last CLASS is struck as others are, whatever is on the MATS. */
    private static void strikeInTheLastClass() {
        for (int mat = 0; mat < 4; mat++) {
            JudoHall x = Check.drawn(3, 32);
            Check.fill(x, 2, 2);
            x.draw(2);
            for (int i = 0; i < 37; i++) {
                x.begin(3, i, mat);
                x.event(mat, 0, 0);
            }
            x.begin(2, 0, 3 - mat);
            check.due("all DONE", x.about(3, 5), 37);
            check.due("the last one", x.strike(3, 36), 1);
            check.due("the first one", x.strike(3, 0), 8);
            check.due("left", x.about(3, 5), 28);
            check.due("of the other CLASS", x.mat(3 - mat, 0), 2);
        }
    }

    /** A CLASS of 32 that is over tells nothing of the one behind it. */
    private static void besideAFullClass() {
        JudoHall x = Check.drawn(0, 32);
        for (int i = 0; i < 37; i++) Check.win(x, 0, i, 0);
        for (int many = 2; many <= 6; many += 4) {
            Check.fill(x, 1, many);
            x.draw(1);
            check.due("none is DONE", x.about(1, 5), 0);
            check.due("WALKS", x.about(1, 6), many == 2 ? 0 : 2);
            check.due("no medal", x.medal(1, 0), Check.NONE);
            check.due("the full one's", x.about(0, 5), 37);
            check.due("the first may begin", x.fight(1, many == 2 ? 0 : 1, 3), 1);
            x.undo();
            for (int k = 0; k < 2 * many; k++) x.undo();
        }
    }
}
