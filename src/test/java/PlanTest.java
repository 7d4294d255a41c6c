/** Promises 23 and 24: the plan of the day. */
public final class PlanTest {
    private static final Check check = new Check("PlanTest");

    public static void main(String[] args) {
        refusals();
        nothingToPlan();
        oneTree();
        oneMat();
        stagesAhead();
        restsAndKnownOnes();
        openOnes();
        afterResults();
        latestPlan();
        fightsOfNow();
        check.end();
    }

    private static void at(JudoHall x, int c, int i, int mat, int minute) {
        check.due("mat of " + c + " " + i, x.planned(c, i, 0), mat);
        check.due("minute of " + c + " " + i, x.planned(c, i, 1), minute);
    }

    private static void refusals() {
        JudoHall x = Check.drawn(0, 2);
        check.due("no plan", x.planned(0, 0, 0), Check.NONE);
        check.due("0 mats", x.plan(0, 5), Check.RANGE);
        check.due("5 mats", x.plan(5, 5), Check.RANGE);
        check.due("0 minutes", x.plan(1, 0), Check.RANGE);
        check.due("61 minutes", x.plan(1, 61), Check.RANGE);
        check.due("-1", x.plan(-1, -1), Check.RANGE);
        check.due("60 minutes", x.plan(4, 60), 60);
        check.due("1 minute", x.plan(1, 1), 1);
        check.due("no ACT", x.count(7), 2 + 4 + 1);
        check.due("what 2", x.planned(0, 0, 2), Check.NONE);
        check.due("what -1", x.planned(0, 0, -1), Check.NONE);
        check.due("fight 1", x.planned(0, 1, 0), Check.NONE);
        check.due("fight -1", x.planned(0, -1, 0), Check.NONE);
        check.due("class 4", x.planned(4, 0, 0), Check.NONE);
        check.due("class not drawn", x.planned(1, 0, 0), Check.NONE);
    }

    private static void nothingToPlan() {
        JudoHall x = new JudoHall();
        check.due("none drawn", x.plan(1, 5), 0);
        x.now(77);
        check.due("none drawn at 77", x.plan(1, 5), 77);
    }

    private static void oneTree() {
        JudoHall x = Check.drawn(0, 8);
        x.now(100);
        x.rest(10);
        // rounds: 0 on four mats, then 10 of REST each; second lives (11) ahead of the FINAL (20)
        check.due("four mats", x.plan(4, 5), 135);
        for (int i = 0; i < 4; i++) at(x, 0, i, i, 100);
        at(x, 0, 4, 0, 115);
        at(x, 0, 5, 1, 115);
        at(x, 0, 7, 0, 130);
        at(x, 0, 8, 1, 130);
        at(x, 0, 6, 2, 130);
    }

    private static void oneMat() {
        JudoHall x = Check.drawn(0, 6);
        // two WALKS are not planned; 4 has 0 and 1 ahead of it, 5 has 2 and 3
        check.due("one mat, no rest", x.plan(1, 7), 49);
        at(x, 0, 0, Check.NONE, Check.NONE);
        at(x, 0, 3, Check.NONE, Check.NONE);
        at(x, 0, 1, 0, 0);
        at(x, 0, 2, 0, 7);
        at(x, 0, 4, 0, 14);
        at(x, 0, 5, 0, 21);
        at(x, 0, 7, 0, 28);
        at(x, 0, 8, 0, 35);
        at(x, 0, 6, 0, 42);
    }

    private static void stagesAhead() {
        JudoHall x = Check.drawn(0, 8);
        Check.fill(x, 1, 3);
        x.draw(1);
        Check.fill(x, 2, 16);
        x.draw(2);
        // by STAGE, then CLASS, then number: on one mat without REST it is just that order
        check.due("three classes", x.plan(1, 1), 9 + 3 + 19);
        int[][] order = {{0, 0}, {0, 1}, {0, 2}, {0, 3}, {1, 0}, {1, 1}, {1, 2}, {2, 0}, {2, 1}, {2, 2}, {2, 3}, {2, 4},
            {2, 5}, {2, 6}, {2, 7}, {0, 4}, {0, 5}, {2, 8}, {2, 9}, {2, 10}, {2, 11}, {2, 12}, {2, 13},
            {0, 7}, {0, 8}, {2, 15}, {2, 17}, {2, 16}, {2, 18}, {0, 6}, {2, 14}};
        for (int k = 0; k < order.length; k++) at(x, order[k][0], order[k][1], 0, k);
    }

    private static void restsAndKnownOnes() {
        JudoHall x = Check.drawn(0, 3);
        x.rest(10);
        // pairs 01 12 02: each has a fighter of the one before, so none may overlap
        check.due("a pool of three", x.plan(4, 5), 35);
        at(x, 0, 0, 0, 0);
        at(x, 0, 1, 0, 15);
        at(x, 0, 2, 0, 30);
        JudoHall y = Check.drawn(0, 6);
        y.rest(10);
        Check.win(y, 0, 1, 0);
        y.now(4);
        // fighter 4 of fight 1 rests till 10, fight 4 is of it and of the one who walked
        // and fight 5 waits for REST behind fight 2: it begins at 19, the FINAL at 34
        check.due("plan", y.plan(4, 5), 39);
        at(y, 0, 1, Check.NONE, Check.NONE);
        at(y, 0, 2, 0, 4);
        at(y, 0, 4, 0, 10);
        at(y, 0, 5, 0, 19);
        at(y, 0, 7, 0, 25);
        at(y, 0, 8, 0, 34);
        at(y, 0, 6, 1, 34);
    }

    private static void openOnes() {
        JudoHall x = Check.drawn(0, 4);
        Check.fill(x, 1, 2);
        x.draw(1);
        x.rest(3);
        x.begin(0, 0, 3);
        x.now(2);
        // fight 0 is on mat 3, which is none of the two: it holds its fighters till 2 + 5 + 3
        check.due("plan", x.plan(2, 5), 23);
        at(x, 0, 0, 3, 2);
        at(x, 0, 2, 0, 2);
        at(x, 1, 0, 1, 2);
        at(x, 0, 1, 0, 10);
        at(x, 0, 5, 1, 10);
        at(x, 0, 3, 0, 18);
        at(x, 0, 4, 1, 18);
        JudoHall y = Check.drawn(0, 2);
        Check.fill(y, 1, 2);
        y.draw(1);
        y.begin(1, 0, 0);
        y.now(9);
        check.due("mat 0 is not free", y.plan(1, 4), 17);
        at(y, 1, 0, 0, 9);
        at(y, 0, 0, 0, 13);
        JudoHall z = Check.drawn(0, 2);
        z.begin(0, 0, 1);
        z.now(30);
        check.due("OPEN alone", z.plan(1, 4), 34);
    }

    private static void afterResults() {
        JudoHall x = Check.drawn(0, 8);
        x.rest(10);
        for (int i = 0; i < 4; i++) Check.win(x, 0, i, 0);
        // all eight rest till 10; the losers of round 0 wait for the finalists
        check.due("plan", x.plan(2, 5), 35);
        at(x, 0, 4, 0, 10);
        at(x, 0, 5, 1, 10);
        at(x, 0, 7, 0, 25);
        at(x, 0, 8, 1, 25);
        at(x, 0, 6, 0, 30);
    }

    private static void latestPlan() {
        JudoHall x = Check.drawn(0, 3);
        x.plan(1, 5);
        x.plan(1, 99);
        at(x, 0, 2, 0, 10);
        Check.win(x, 0, 2, 0);
        at(x, 0, 2, 0, 10);
        x.plan(1, 6);
        at(x, 0, 2, Check.NONE, Check.NONE);
        at(x, 0, 1, 0, 6);
        x.undo();
        x.undo();
        at(x, 0, 2, Check.NONE, Check.NONE);
        at(x, 0, 1, 0, 6);
    }

    private static void fightsOfNow() {
        JudoHall x = Check.drawn(0, 3);
        x.plan(1, 5);
        x.undo();
        at(x, 0, 0, Check.NONE, Check.NONE);
        x.undo();
        x.draw(0);
        at(x, 0, 0, 0, 0);
        at(x, 0, 1, Check.NONE, Check.NONE);
    }
}
