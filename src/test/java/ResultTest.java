/** Promises 21 and 22: results that are struck with all that hung on them, and medals. */
public final class ResultTest {
    private static final Check check = new Check("ResultTest");

    public static void main(String[] args) {
        strikeRefusals();
        strikeInPool();
        strikeUpTheTree();
        strikeBreaksOff();
        strikeOfTheFinal();
        strikeOfAHalf();
        strikeOfSecondLives();
        medalsOfTree();
        medalsOfLargeTree();
        medalsOfPool();
        justTwoAlike();
        threeAlike();
        check.end();
    }

    private static void strikeRefusals() {
        JudoHall x = Check.drawn(0, 6);
        check.due("class 4", x.strike(4, 0), Check.RANGE);
        check.due("class not drawn", x.strike(1, 0), Check.RANGE);
        check.due("fight 9", x.strike(0, 9), Check.RANGE);
        check.due("fight -1", x.strike(0, -1), Check.RANGE);
        check.due("a WALK", x.strike(0, 0), Check.STATE);
        check.due("READY", x.strike(0, 1), Check.STATE);
        check.due("OFF", x.strike(0, 6), Check.STATE);
        x.begin(0, 1, 0);
        check.due("OPEN", x.strike(0, 1), Check.STATE);
    }

    private static void strikeInPool() {
        JudoHall x = Check.drawn(0, 4);
        for (int i = 0; i < 6; i++) Check.win(x, 0, i, 0);
        x.now(5);
        check.due("only it", x.strike(0, 2), 1);
        check.due("READY again", x.fight(0, 2, 3), 1);
        check.due("no winner", x.fight(0, 2, 2), Check.NONE);
        check.due("no line", x.fight(0, 2, 4), Check.NONE);
        check.due("no points", x.fight(0, 2, 5), 0);
        check.due("no minute", x.fight(0, 2, 7), Check.NONE);
        check.due("results left", x.about(0, 5), 5);
        check.due("the end stays", x.fighter(2, 6), 0);
        check.due("twice", x.strike(0, 2), Check.STATE);
        check.due("again", Check.win(x, 0, 2, 1), 0);
        check.due("the other wins", x.fight(0, 2, 2), 3);
    }

    /** All of a tree of 8, WHITE wins each: 0 beats 7, 4; 2 beats 5, 6; then 0 beats 2. */
    private static JudoHall wholeTree() {
        JudoHall x = Check.drawn(0, 8);
        for (int i = 0; i < 9; i++) check.due("fight " + i, Check.win(x, 0, i, 0), 0);
        return x;
    }

    private static void strikeUpTheTree() {
        JudoHall x = wholeTree();
        check.due("all of half 0 but one", x.strike(0, 1), 4);
        int[] states = {3, 1, 3, 3, 0, 3, 0, 0, 3};
        for (int i = 0; i < 9; i++) check.due("state of " + i, x.fight(0, i, 3), states[i]);
        check.due("other third stays", x.medal(0, 3), 5);
        check.due("log", x.undo(), 1 + 1 + 16 + 1 + 18);
        for (int i = 0; i < 9; i++) check.due("state again of " + i, x.fight(0, i, 3), 3);
    }

    private static void strikeBreaksOff() {
        JudoHall x = Check.drawn(0, 8);
        for (int i = 0; i < 6; i++) Check.win(x, 0, i, 0);
        x.rest(10);
        x.now(20);
        x.begin(0, 6, 2);
        x.begin(0, 8, 3);
        x.begin(0, 7, 1);
        x.now(25);
        check.due("round 1, two OPEN ones", x.strike(0, 4), 3);
        check.due("FINAL is OFF", x.fight(0, 6, 3), 0);
        check.due("its mat", x.fight(0, 6, 6), Check.NONE);
        check.due("mat is free", x.mat(2, 0), Check.NONE);
        check.due("other mat is free", x.mat(1, 0), Check.NONE);
        check.due("second lives of the other go on", x.mat(3, 1), 8);
        check.due("OPEN ones", x.count(6), 1);
        check.due("broken off: WHITE", x.fighter(0, 6), 25);
        check.due("broken off: BLUE", x.fighter(2, 6), 25);
        check.due("broken off in second lives", x.fighter(7, 6), 25);
        check.due("struck result's end stays or is later", x.fighter(4, 6), 25);
        check.due("not touched", x.fighter(3, 6), 0);
        check.due("READY again", x.fight(0, 4, 3), 1);
        check.due("but they rest", x.begin(0, 4, 2), Check.RESTS);
        x.now(35);
        check.due("till REST is over", x.begin(0, 4, 2), 1);
        x.undo();
        x.undo();
        check.due("undo of the strike", x.undo() > 0 ? x.fight(0, 6, 3) : 0, 2);
        check.due("mat again", x.mat(2, 1), 6);
        check.due("LEFT again", x.mat(1, 2), 9);
        check.due("end again", x.fighter(0, 6), 0);
    }

    private static void strikeOfTheFinal() {
        JudoHall x = wholeTree();
        check.due("the FINAL alone", x.strike(0, 6), 1);
        check.due("READY", x.fight(0, 6, 3), 1);
        check.due("third stays", x.medal(0, 2), 7);
        check.due("no first", x.medal(0, 0), Check.NONE);
    }

    private static void strikeOfAHalf() {
        JudoHall x = wholeTree();
        check.due("round 1: FINAL and second lives", x.strike(0, 5), 3);
        check.due("it is READY", x.fight(0, 5, 3), 1);
        check.due("lives OFF", x.fight(0, 8, 3), 0);
        check.due("other lives DONE", x.fight(0, 7, 3), 3);
        JudoHall y = Check.drawn(0, 6);
        // finalist 0 had a BYE: the WALK of the second lives goes with the result
        for (int i : new int[] {1, 2, 4, 5}) Check.win(y, 0, i, 0);
        check.due("walks", y.about(0, 6), 3);
        check.due("only results count", y.strike(0, 4), 1);
        check.due("walks", y.about(0, 6), 2);
        check.due("OFF", y.fight(0, 7, 3), 0);
    }

    private static void strikeOfSecondLives() {
        JudoHall x = Check.drawn(0, 16);
        for (int i = 0; i < 19; i++) Check.win(x, 0, i, 0);
        check.due("all DONE", x.about(0, 5), 19);
        check.due("the step and the next", x.strike(0, 17), 2);
        check.due("next step is OFF", x.fight(0, 18, 3), 0);
        check.due("its BLUE is known", x.fight(0, 18, 1), 6);
        check.due("last step alone", x.strike(0, 16), 1);
        check.due("round 0 takes its path and the lives", x.strike(0, 0), 1 + 1 + 1 + 1 + 1);
        check.due("left", x.about(0, 5), 19 - 2 - 1 - 5);
    }

    private static void medalsOfTree() {
        JudoHall x = Check.drawn(0, 8);
        for (int k = -1; k < 6; k++) check.due("ahead " + k, x.medal(0, k), Check.NONE);
        for (int i = 0; i < 9; i++) Check.win(x, 0, i, i == 6 || i == 7 ? 1 : 0);
        int[] want = {2, 0, 4, 5, Check.NONE};
        for (int k = 0; k < 5; k++) check.due("medal " + k, x.medal(0, k), want[k]);
        check.due("medal -1", x.medal(0, -1), Check.NONE);
        check.due("class 4", x.medal(4, 0), Check.NONE);
        check.due("class -1", x.medal(-1, 0), Check.NONE);
        check.due("class not drawn", x.medal(1, 0), Check.NONE);
        JudoHall y = Check.drawn(0, 6);
        Check.win(y, 0, 1, 0);
        Check.win(y, 0, 4, 0);
        check.due("third by a WALK", y.medal(0, 2), 4);
        check.due("no other third", y.medal(0, 3), Check.NONE);
    }

    private static void medalsOfLargeTree() {
        JudoHall x = Check.drawn(0, 16);
        for (int i = 0; i < 19; i++) Check.win(x, 0, i, i == 16 ? 1 : 0);
        int[] want = {0, 2, 4, 13};
        for (int k = 0; k < 4; k++) check.due("medal " + k + " of 16", x.medal(0, k), want[k]);
    }

    private static JudoHall pool(int[] grams, int[] winners, String text, int[] signs) {
        JudoHall x = new JudoHall();
        Check.laws(x, text);
        x.rest(0);
        for (int g : grams) x.weigh(x.enter(0, 0), g);
        x.draw(0);
        for (int i = 0; i < winners.length; i++) {
            x.begin(0, i, 0);
            x.event(0, winners[i] == x.fight(0, i, 0) ? 0 : 1, signs == null ? 0 : signs[i]);
        }
        return x;
    }

    private static void order(String name, JudoHall x, int... want) {
        for (int k = 0; k < want.length; k++) check.due(name + " " + k, x.medal(0, k), want[k]);
        check.due(name + " behind the last", x.medal(0, want.length), Check.NONE);
        check.due(name + " -1", x.medal(0, -1), Check.NONE);
    }

    private static final String TWO = "time 9;golden 0;sign ippon;sign wazari;win 10 when mine ippon>0;win 7 when mine wazari>0;";

    private static void medalsOfPool() {
        // pairs of 4: 01 12 23 02 13 03
        JudoHall x = pool(new int[] {5, 5, 5, 5}, new int[] {1, 2, 3, 2, 3}, TWO, null);
        check.due("one is missing", x.medal(0, 0), Check.NONE);
        check.due("the last", Check.win(x, 0, 5, 1), 0);
        order("by wins", x, 3, 2, 1, 0);
        // three with two wins each and other sums: 0 has 20, 1 has 17, 2 has 14
        JudoHall y = pool(new int[] {5, 5, 5, 5}, new int[] {0, 1, 2, 2, 1, 0}, TWO, new int[] {0, 0, 1, 1, 1, 0});
        order("by points", y, 0, 1, 2, 3);
        JudoHall z = pool(new int[] {5, 4}, new int[] {0}, TWO, null);
        order("of two", z, 0, 1);
    }

    private static void justTwoAlike() {
        // 1 and 2 have one win each and 10 points each; 1 beat 2, though it has more grams
        JudoHall x = pool(new int[] {9, 9, 3, 9}, new int[] {0, 1, 2, 0, 3, 3}, TWO, null);
        // 0: two wins, 3: two wins; 3 beat 0
        order("who won of both", x, 3, 0, 1, 2);
    }

    private static void threeAlike() {
        // 0 beat 1, 1 beat 2, 2 beat 0: one win each, the same points
        JudoHall x = pool(new int[] {7, 5, 5}, new int[] {0, 1, 2}, TWO, null);
        order("grams, then numbers", x, 1, 2, 0);
        JudoHall y = pool(new int[] {5, 5, 4}, new int[] {0, 1, 2}, TWO, null);
        order("grams first", y, 2, 0, 1);
        // sums part one of the three: then two are alike, and who won of both counts
        JudoHall z = pool(new int[] {5, 4, 9}, new int[] {0, 1, 2}, TWO, new int[] {1, 1, 0});
        order("two of three", z, 2, 0, 1);
    }
}
