/** Promises 6 to 12: limits, FIGHTERS, the scales, SEEDS, THE DRAW, and what is told of them. */
public final class PeopleTest {
    private static final Check check = new Check("PeopleTest");
    private static final int[] ROW_OF_8 = {0, 7, 4, 3, 2, 5, 6, 1};
    private static final int[] ROW_OF_16 = {0, 15, 8, 7, 4, 11, 12, 3, 2, 13, 10, 5, 6, 9, 14, 1};
    private static final int[] ROW_OF_32 = {0, 31, 16, 15, 8, 23, 24, 7, 4, 27, 20, 11, 12, 19, 28, 3,
        2, 29, 18, 13, 10, 21, 26, 5, 6, 25, 22, 9, 14, 17, 30, 1};

    public static void main(String[] args) {
        limits();
        entering();
        scales();
        seeds();
        drawing();
        rows();
        seedsInTheRow();
        clubsApart();
        largestClubFirst();
        toldOfFighters();
        toldOfClasses();
        check.end();
    }

    private static void limits() {
        JudoHall x = new JudoHall();
        check.due("limit", x.limit(0, 0, 200000), 1);
        check.due("limit of one weight", x.limit(3, 500, 500), 1);
        check.due("class 4", x.limit(4, 0, 1), Check.RANGE);
        check.due("class -1", x.limit(-1, 0, 1), Check.RANGE);
        check.due("low -1", x.limit(0, -1, 1), Check.RANGE);
        check.due("high above", x.limit(0, 0, 200001), Check.RANGE);
        check.due("low above high", x.limit(0, 2, 1), Check.RANGE);
        check.due("entries", x.count(7), 2);
        x.enter(0, 0);
        x.enter(0, 1);
        check.due("a fighter not weighed", x.limit(0, 100, 200), 1);
        x.weigh(0, 99);
        check.due("a fighter who is OUT", x.limit(0, 0, 200), Check.STATE);
        check.due("RANGE first", x.limit(0, 0, -200), Check.RANGE);
        check.due("another class", x.limit(1, 0, 200), 1);
        x.undo();
        x.undo();
        check.due("undone scales", x.limit(0, 50, 60), 1);
        check.due("new limits", x.weigh(0, 61), 0);
    }

    private static void entering() {
        JudoHall x = new JudoHall();
        check.due("club 16", x.enter(16, 0), Check.RANGE);
        check.due("club -1", x.enter(-1, 0), Check.RANGE);
        check.due("class 4", x.enter(0, 4), Check.RANGE);
        check.due("class -1", x.enter(0, -1), Check.RANGE);
        for (int k = 0; k < 96; k++) check.due("enter " + k, x.enter(15 - k % 16, k % 4), k);
        check.due("the 97th", x.enter(0, 0), Check.FULL);
        check.due("RANGE of the 97th", x.enter(0, 5), Check.RANGE);
        check.due("fighters", x.count(0), 96);
        x.weigh(0, 1);
        x.weigh(4, 1);
        x.draw(0);
        check.due("the 97th of a drawn class", x.enter(0, 0), Check.STATE);
        JudoHall y = Check.drawn(2, 3);
        check.due("a drawn class", y.enter(0, 2), Check.STATE);
        check.due("another class", y.enter(0, 1), 3);
        y.undo();
        check.due("the number again", y.enter(0, 1), 3);
    }

    private static void scales() {
        JudoHall x = new JudoHall();
        x.limit(1, 60000, 66000);
        x.enter(0, 1);
        x.enter(0, 0);
        check.due("fighter 2", x.weigh(2, 1), Check.RANGE);
        check.due("fighter -1", x.weigh(-1, 1), Check.RANGE);
        check.due("grams -1", x.weigh(0, -1), Check.RANGE);
        check.due("grams above", x.weigh(0, 200001), Check.RANGE);
        check.due("not yet", x.fighter(0, 3), 0);
        check.due("the least", x.weigh(0, 60000), 1);
        check.due("the most", x.weigh(0, 66000), 1);
        check.due("below", x.weigh(0, 59999), 0);
        check.due("grams", x.fighter(0, 2), 59999);
        check.due("OUT", x.fighter(0, 3), 2);
        check.due("above", x.weigh(0, 66001), 0);
        check.due("WEIGHED ones", x.about(1, 1), 0);
        check.due("weighed again", x.weigh(0, 61000), 1);
        check.due("WEIGHED", x.fighter(0, 3), 1);
        check.due("other class", x.weigh(1, 200000), 1);
        JudoHall y = Check.drawn(0, 2);
        check.due("drawn", y.weigh(0, 1), Check.STATE);
        check.due("drawn and out of range", y.weigh(0, -1), Check.RANGE);
    }

    private static void seeds() {
        JudoHall x = new JudoHall();
        Check.fill(x, 0, 3);
        x.enter(0, 1);
        check.due("seed", x.seed(0, 8), 0);
        check.due("which it was", x.seed(0, 1), 8);
        check.due("the same again", x.seed(0, 1), 1);
        check.due("another one's", x.seed(1, 1), Check.STATE);
        check.due("of another class", x.seed(3, 1), 0);
        check.due("seed 9", x.seed(1, 9), Check.RANGE);
        check.due("seed -1", x.seed(1, -1), Check.RANGE);
        check.due("no fighter", x.seed(4, 1), Check.RANGE);
        check.due("none any more", x.seed(0, 0), 1);
        check.due("none, two of them", x.seed(1, 0), 0);
        check.due("free again", x.seed(1, 1), 0);
        check.due("told", x.fighter(1, 4), 1);
        check.due("told of none", x.fighter(0, 4), 0);
        x.draw(0);
        check.due("drawn", x.seed(2, 3), Check.STATE);
    }

    private static void drawing() {
        int[] fights = {0, 0, 1, 3, 6, 10, 9, 9, 9, 19, 19, 19, 19, 19, 19, 19, 19, 37};
        for (int n = 2; n < fights.length; n++) {
            JudoHall x = new JudoHall();
            Check.fill(x, 1, n);
            check.due("draw of " + n, x.draw(1), fights[n]);
            check.due("fights of " + n, x.about(1, 4), fights[n]);
            check.due("kind of " + n, x.about(1, 2), n <= 5 ? 1 : 2);
            check.due("size of " + n, x.about(1, 3), n <= 5 ? n : n <= 8 ? 8 : n <= 16 ? 16 : 32);
        }
        JudoHall x = new JudoHall();
        check.due("class 4", x.draw(4), Check.RANGE);
        check.due("class -1", x.draw(-1), Check.RANGE);
        check.due("nobody", x.draw(0), Check.NONE);
        x.weigh(x.enter(0, 0), 5);
        x.enter(0, 0);
        check.due("one WEIGHED", x.draw(0), Check.NONE);
        Check.fill(x, 1, 33);
        check.due("33", x.draw(1), Check.NONE);
        x.undo();
        check.due("32", x.draw(1), 37);
        check.due("no byes", x.about(1, 6), 0);
        check.due("drawn", x.draw(1), Check.STATE);
    }

    private static void rows() {
        rowHolds(ROW_OF_8, 8);
        rowHolds(ROW_OF_16, 16);
        rowHolds(ROW_OF_16, 9);
        rowHolds(ROW_OF_8, 6);
    }

    /** Fighters of clubs 0, 1, .. stand in THE ROW one by one; the last of it are BYES. */
    private static void rowHolds(int[] row, int many) {
        JudoHall x = Check.drawn(0, many);
        for (int k = 0; k < row.length; k++) {
            check.due("place " + row[k] + " of " + many, x.about(0, 100 + row[k]), k < many ? k : Check.NONE);
            if (k < many) check.due("fighter " + k + " of " + many, x.fighter(k, 5), row[k]);
        }
        check.due("walks of " + many, x.about(0, 6), row.length - many);
    }

    private static void seedsInTheRow() {
        JudoHall x = new JudoHall();
        Check.fill(x, 0, 20);
        x.enter(3, 0);
        // 20 was not weighed; 5, 2 and 7 take the first places by their SEEDS, whatever these are
        x.seed(20, 1);
        x.seed(7, 8);
        x.seed(5, 3);
        x.seed(2, 5);
        x.draw(0);
        check.due("first seed", x.fighter(5, 5), ROW_OF_32[0]);
        check.due("second seed", x.fighter(2, 5), ROW_OF_32[1]);
        check.due("third seed", x.fighter(7, 5), ROW_OF_32[2]);
        check.due("not weighed", x.fighter(20, 5), Check.NONE);
        for (int k = 0; k < 32; k++) {
            boolean bye = x.about(0, 100 + ROW_OF_32[k]) == Check.NONE;
            check.due("bye at " + ROW_OF_32[k], bye ? 1 : 0, k < 20 ? 0 : 1);
        }
    }

    private static JudoHall ofClubs(int... clubs) {
        JudoHall x = new JudoHall();
        for (int club : clubs) x.weigh(x.enter(club, 0), 1);
        return x;
    }

    private static void clubsApart() {
        // one club of four in a tree of 8: 0, then the other half, then the other quarters
        JudoHall x = ofClubs(1, 1, 1, 1, 2, 3, 4, 5);
        x.draw(0);
        int[] places = {0, 7, 4, 3, 2, 5, 6, 1};
        for (int f = 0; f < 8; f++) check.due("place of " + f, x.fighter(f, 5), places[f]);
        // a seed of the club is met latest, too: 0 is taken by it, so the next goes to the other half
        JudoHall y = ofClubs(1, 1, 1, 2, 3, 4);
        y.seed(3, 2);
        y.seed(1, 1);
        y.draw(0);
        check.due("seed 1", y.fighter(1, 5), 0);
        check.due("seed 2", y.fighter(3, 5), 7);
        check.due("first of the club", y.fighter(0, 5), 4);
        check.due("second of the club", y.fighter(2, 5), 3);
        // all of one club: the fifth can't but meet one in round 0
        JudoHall z = ofClubs(9, 9, 9, 9, 9, 9);
        z.draw(0);
        for (int f = 0; f < 6; f++) check.due("one club " + f, z.fighter(f, 5), ROW_OF_8[f]);
    }

    private static void largestClubFirst() {
        JudoHall x = ofClubs(0, 5, 5, 3, 3, 1);
        x.draw(0);
        // clubs 3 and 5 have two each, the least first; then 0, then 1
        check.due("first of club 3", x.fighter(3, 5), 0);
        check.due("second of club 3", x.fighter(4, 5), 7);
        check.due("first of club 5", x.fighter(1, 5), 4);
        check.due("second of club 5", x.fighter(2, 5), 3);
        check.due("club 0", x.fighter(0, 5), 2);
        check.due("club 1", x.fighter(5, 5), 5);
        // seeds are not counted among the others of a club
        JudoHall y = ofClubs(5, 5, 5, 3, 3, 1);
        y.seed(0, 1);
        y.seed(1, 2);
        y.draw(0);
        check.due("club 3 first", y.fighter(3, 5), 4);
        check.due("club 3 second", y.fighter(4, 5), 3);
        check.due("club 1 ahead of 5", y.fighter(5, 5), 2);
        check.due("club 5 last", y.fighter(2, 5), 5);
    }

    private static void toldOfFighters() {
        JudoHall x = new JudoHall();
        x.enter(7, 2);
        int[] fresh = {2, 7, Check.NONE, 0, 0, Check.NONE, Check.NONE};
        for (int w = 0; w < 7; w++) check.due("fighter(0, " + w + ")", x.fighter(0, w), fresh[w]);
        check.due("what 7", x.fighter(0, 7), Check.NONE);
        check.due("what -1", x.fighter(0, -1), Check.NONE);
        check.due("no fighter", x.fighter(1, 0), Check.NONE);
        check.due("fighter -1", x.fighter(-1, 0), Check.NONE);
        JudoHall y = new JudoHall();
        Check.laws(y, Check.IPPON);
        y.enter(0, 0);
        Check.fill(y, 0, 3);
        y.draw(0);
        check.due("not in the pool", y.fighter(0, 5), Check.NONE);
        for (int f = 1; f <= 3; f++) check.due("how-manyth " + f, y.fighter(f, 5), f - 1);
        y.now(33);
        Check.win(y, 0, 0, 0);
        check.due("end of WHITE", y.fighter(1, 6), 33);
        check.due("end of BLUE", y.fighter(2, 6), 33);
        check.due("end of none", y.fighter(3, 6), Check.NONE);
    }

    private static void toldOfClasses() {
        JudoHall x = new JudoHall();
        x.limit(0, 10, 20);
        x.enter(0, 0);
        x.weigh(x.enter(0, 0), 21);
        x.weigh(x.enter(0, 0), 20);
        x.enter(0, 1);
        check.due("fighters", x.about(0, 0), 3);
        check.due("weighed", x.about(0, 1), 1);
        for (int w = 2; w <= 6; w++) check.due("not drawn " + w, x.about(0, w), w == 3 ? Check.NONE : 0);
        check.due("place ahead of the draw", x.about(0, 100), Check.NONE);
        check.due("what 7", x.about(0, 7), Check.NONE);
        check.due("what -1", x.about(0, -1), Check.NONE);
        check.due("what 99", x.about(0, 99), Check.NONE);
        check.due("class 4", x.about(4, 0), Check.NONE);
        check.due("class -1", x.about(-1, 0), Check.NONE);
        JudoHall y = Check.drawn(0, 7);
        check.due("S", y.about(0, 3), 8);
        check.due("S of another class", y.about(1, 3), Check.NONE);
        y.undo();
        check.due("S of a draw taken back", y.about(0, 3), Check.NONE);
        y.draw(0);
        check.due("place 8 of 8", y.about(0, 108), Check.NONE);
        check.due("what MIN", y.about(0, Integer.MIN_VALUE), Check.NONE);
        check.due("what MAX", y.about(0, Integer.MAX_VALUE), Check.NONE);
        check.due("no result", y.about(0, 5), 0);
        check.due("walk", y.about(0, 6), 1);
        Check.win(y, 0, 1, 0);
        y.begin(0, 2, 0);
        check.due("results", y.about(0, 5), 1);
        check.due("a pool has no PLACES", Check.drawn(0, 3).about(0, 100), Check.NONE);
    }
}
