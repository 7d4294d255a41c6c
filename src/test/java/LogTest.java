/** Promises 25 and 26: undo of each ACT, THE LOG, and counts. */
public final class LogTest {
    private static final Check check = new Check("LogTest");

    public static void main(String[] args) {
        undoOfEach();
        whatStays();
        fullLog();
        counts();
        refusedIsNoEntry();
        check.end();
    }

    private static void undoOfEach() {
        JudoHall x = new JudoHall();
        Check.laws(x, Check.IPPON);
        check.due("laws", x.undo(), 0);
        check.due("no lines", x.count(4), 0);
        check.due("no signs", x.count(3), 0);
        check.due("nothing left", x.undo(), Check.NONE);
        Check.laws(x, Check.IPPON);
        x.limit(0, 5, 6);
        x.undo();
        x.enter(3, 0);
        x.undo();
        check.due("nobody", x.count(0), 0);
        x.enter(4, 0);
        x.weigh(0, 7);
        check.due("limits were taken back", x.fighter(0, 3), 1);
        x.undo();
        check.due("grams", x.fighter(0, 2), Check.NONE);
        check.due("scales", x.fighter(0, 3), 0);
        x.seed(0, 2);
        x.seed(0, 3);
        x.undo();
        check.due("seed", x.fighter(0, 4), 2);
        x.weigh(0, 7);
        x.weigh(x.enter(1, 0), 8);
        x.draw(0);
        x.undo();
        check.due("not drawn", x.about(0, 2), 0);
        check.due("no place", x.fighter(1, 5), Check.NONE);
        check.due("may be drawn again", x.draw(0), 1);
        x.now(20);
        x.undo();
        check.due("minute", x.count(1), 0);
        x.rest(20);
        x.undo();
        check.due("rest", x.count(2), 10);
        undoOfFights(x);
    }

    private static void undoOfFights(JudoHall x) {
        x.begin(0, 0, 2);
        x.undo();
        check.due("READY", x.fight(0, 0, 3), 1);
        check.due("mat is free", x.mat(2, 0), Check.NONE);
        x.begin(0, 0, 1);
        x.tick(1, 4);
        x.undo();
        check.due("LEFT", x.mat(1, 2), 9);
        x.event(1, 0, 0);
        x.undo();
        check.due("OPEN", x.fight(0, 0, 3), 2);
        check.due("no signs", x.mat(1, 10), 0);
        check.due("no end", x.fighter(0, 6), Check.NONE);
        x.tick(1, 9);
        check.due("waits", x.mat(1, 4), 1);
        x.undo();
        check.due("waits no more", x.mat(1, 4), 0);
        x.tick(1, 9);
        x.decide(1, 0);
        x.undo();
        check.due("waits again", x.mat(1, 4), 1);
        x.decide(1, 1);
        x.strike(0, 0);
        x.undo();
        check.due("result", x.fight(0, 0, 2), 1);
        int entries = x.count(7);
        for (int k = entries - 1; k >= 0; k--) check.due("undo to " + k, x.undo(), k);
        check.due("none left", x.undo(), Check.NONE);
        check.due("nobody", x.count(0), 0);
    }

    private static void whatStays() {
        JudoHall x = Check.drawn(0, 3);
        x.plan(1, 5);
        Check.laws(x, "time x");
        x.feed(1, 2, 3, 4, 5);
        int entries = x.count(7);
        check.due("undo of the draw", x.undo(), entries - 1);
        check.due("tape", x.count(8), 20);
        check.due("fault", x.fault(0), 1);
        check.due("place", x.fault(1), 5);
        x.draw(0);
        check.due("plan", x.planned(0, 1, 1), 5);
    }

    private static void fullLog() {
        JudoHall x = new JudoHall();
        for (int k = 0; k < 500; k++) check.due("now " + k, x.now(k), k);
        check.due("entries", x.count(7), 500);
        check.due("the 501st", x.now(500), Check.FULL);
        check.due("another ACT", x.enter(0, 0), Check.FULL);
        check.due("a plan is none", x.plan(1, 1), 499);
        check.due("undo", x.undo(), 499);
        check.due("minute", x.count(1), 498);
        check.due("room again", x.enter(0, 0), 0);
        check.due("full again", x.rest(1), Check.FULL);
    }

    private static void counts() {
        JudoHall x = Check.drawn(0, 4);
        x.now(3);
        x.rest(7);
        x.begin(0, 0, 0);
        x.begin(0, 2, 1);
        x.feed(0, 0, 0, 0, 0);
        int[] want = {4, 3, 7, 1, 1, 3, 2, 2 + 8 + 1 + 4, 20};
        for (int k = 0; k < want.length; k++) check.due("count(" + k + ")", x.count(k), want[k]);
        for (int k : new int[] {-1, 9, 10, Integer.MAX_VALUE, Integer.MIN_VALUE}) {
            check.due("count(" + k + ")", x.count(k), Check.NONE);
        }
    }

    private static void refusedIsNoEntry() {
        JudoHall x = Check.drawn(0, 4);
        int entries = x.count(7);
        x.now(-1);
        x.rest(121);
        x.enter(0, 0);
        x.weigh(0, 1);
        x.seed(0, 1);
        x.draw(0);
        x.draw(1);
        x.limit(0, 0, 1);
        x.begin(0, 9, 0);
        x.event(0, 0, 0);
        x.tick(0, 1);
        x.decide(0, 0);
        x.strike(0, 0);
        x.laws();
        check.due("entries", x.count(7), entries);
        x.begin(0, 0, 0);
        x.tick(0, 1);
        check.due("what goes on is one", x.count(7), entries + 2);
    }
}
