/** Promises 13 to 20: FIGHTS of trees and pools, minutes and rests, and how a FIGHT goes by the laws. */
public final class FightTest {
    private static final Check check = new Check("FightTest");

    public static void main(String[] args) {
        treeOfEight();
        treeOfSixteen();
        walks();
        poolPairs();
        toldOfOneFight();
        minutes();
        resting();
        beginning();
        events();
        mostOfASign();
        ticks();
        timeAndGolden();
        noTimeAtAll();
        decisions();
        conds();
        linesInOrder();
        toldOfMats();
        check.end();
    }

    private static void pair(JudoHall x, int c, int i, int white, int blue, int state) {
        check.due("WHITE of " + i, x.fight(c, i, 0), white);
        check.due("BLUE of " + i, x.fight(c, i, 1), blue);
        check.due("state of " + i, x.fight(c, i, 3), state);
    }

    private static void treeOfEight() {
        JudoHall x = Check.drawn(2, 8);
        pair(x, 2, 0, 0, 7, 1);
        pair(x, 2, 1, 4, 3, 1);
        pair(x, 2, 2, 2, 5, 1);
        pair(x, 2, 3, 6, 1, 1);
        for (int i = 4; i < 9; i++) pair(x, 2, i, Check.NONE, Check.NONE, 0);
        Check.win(x, 2, 1, 1);
        pair(x, 2, 4, Check.NONE, 3, 0);
        Check.win(x, 2, 0, 0);
        pair(x, 2, 4, 0, 3, 1);
        pair(x, 2, 7, Check.NONE, Check.NONE, 0);
        Check.win(x, 2, 4, 1);
        pair(x, 2, 6, 3, Check.NONE, 0);
        pair(x, 2, 7, 4, 0, 1);
        Check.win(x, 2, 2, 0);
        Check.win(x, 2, 3, 0);
        Check.win(x, 2, 5, 0);
        pair(x, 2, 6, 3, 2, 1);
        pair(x, 2, 8, 5, 6, 1);
        Check.win(x, 2, 6, 0);
        check.due("winner of the FINAL", x.fight(2, 6, 2), 3);
        check.due("all but the second lives", x.about(2, 5), 7);
    }

    private static void treeOfSixteen() {
        JudoHall x = Check.drawn(0, 16);
        for (int i = 0; i < 14; i++) check.due("fight " + i, Check.win(x, 0, i, 0), 0);
        pair(x, 0, 14, 0, 2, 1);
        pair(x, 0, 15, 15, 8, 1);
        pair(x, 0, 16, Check.NONE, 4, 0);
        pair(x, 0, 17, 13, 10, 1);
        pair(x, 0, 18, Check.NONE, 6, 0);
        Check.win(x, 0, 15, 1);
        pair(x, 0, 16, 8, 4, 1);
        check.due("no such fight", x.fight(0, 19, 3), Check.NONE);
    }

    private static void walks() {
        JudoHall x = Check.drawn(0, 9);
        // of 16 places those of THE ROW's first nine are taken: 0 15 8 7 4 11 12 3 2
        pair(x, 0, 0, 0, Check.NONE, 4);
        pair(x, 0, 1, 8, 7, 1);
        pair(x, 0, 3, Check.NONE, 3, 4);
        check.due("walker on the blue side", x.fight(0, 3, 2), 3);
        check.due("a WALK's line", x.fight(0, 0, 4), Check.NONE);
        check.due("a WALK's points", x.fight(0, 0, 5), 0);
        check.due("a WALK's minute", x.fight(0, 0, 7), Check.NONE);
        check.due("walker never fought", x.fighter(0, 6), Check.NONE);
        pair(x, 0, 8, 0, Check.NONE, 0);
        pair(x, 0, 9, 4, 3, 1);
        check.due("walks", x.about(0, 6), 7);
        Check.win(x, 0, 9, 0);
        Check.win(x, 0, 1, 0);
        Check.win(x, 0, 8, 0);
        Check.win(x, 0, 12, 0);
        // finalist 0 had a BYE in round 0, then beat 8, then 4
        pair(x, 0, 15, Check.NONE, 8, 4);
        check.due("winner by a WALK", x.fight(0, 15, 2), 8);
        pair(x, 0, 16, 8, 4, 1);
        check.due("walks", x.about(0, 6), 8);
        check.due("a WALK does not begin", x.begin(0, 15, 0), Check.STATE);
        JudoHall y = Check.drawn(0, 9);
        int[] order = {1, 9, 8, 12};
        for (int i : order) Check.win(y, 0, i, i == 8 || i == 12 ? 1 - (i - 8) / 4 : 0);
        // 8 beat 7, then 0, then lost to 4's winner or won: its round 0 loser is 7
        check.due("finalist 0", y.fight(0, 12, 2), 8);
        pair(y, 0, 15, 7, 0, 1);
    }

    private static void poolPairs() {
        int[][] five = {{0, 1}, {1, 2}, {2, 3}, {3, 4}, {0, 2}, {1, 3}, {2, 4}, {0, 3}, {1, 4}, {0, 4}};
        JudoHall x = Check.drawn(3, 5);
        for (int i = 0; i < 10; i++) pair(x, 3, i, five[i][0], five[i][1], 1);
        JudoHall y = new JudoHall();
        y.enter(0, 0);
        y.weigh(y.enter(0, 1), 1);
        y.weigh(y.enter(0, 0), 1);
        y.weigh(y.enter(0, 0), 1);
        y.weigh(y.enter(0, 0), 1);
        y.draw(0);
        int[][] three = {{2, 3}, {3, 4}, {2, 4}};
        for (int i = 0; i < 3; i++) pair(y, 0, i, three[i][0], three[i][1], 1);
    }

    private static void toldOfOneFight() {
        JudoHall x = Check.drawn(0, 3);
        int[] fresh = {0, 1, Check.NONE, 1, Check.NONE, 0, Check.NONE, Check.NONE};
        for (int w = 0; w < 8; w++) check.due("fresh " + w, x.fight(0, 0, w), fresh[w]);
        x.now(7);
        x.begin(0, 0, 3);
        int[] open = {0, 1, Check.NONE, 2, Check.NONE, 0, 3, Check.NONE};
        for (int w = 0; w < 8; w++) check.due("open " + w, x.fight(0, 0, w), open[w]);
        x.now(8);
        x.event(3, 1, 0);
        int[] done = {0, 1, 1, 3, 0, 10, Check.NONE, 8};
        for (int w = 0; w < 8; w++) check.due("done " + w, x.fight(0, 0, w), done[w]);
        check.due("what 8", x.fight(0, 0, 8), Check.NONE);
        check.due("what -1", x.fight(0, 0, -1), Check.NONE);
        check.due("fight 3", x.fight(0, 3, 0), Check.NONE);
        check.due("fight -1", x.fight(0, -1, 0), Check.NONE);
        check.due("class 4", x.fight(4, 0, 0), Check.NONE);
        check.due("class -1", x.fight(-1, 0, 0), Check.NONE);
        check.due("class not drawn", x.fight(1, 0, 3), Check.NONE);
    }

    private static void minutes() {
        JudoHall x = new JudoHall();
        check.due("now(5)", x.now(5), 5);
        check.due("the same minute", x.now(5), 5);
        check.due("back", x.now(4), Check.RANGE);
        check.due("below 0", x.now(-1), Check.RANGE);
        check.due("above", x.now(1441), Check.RANGE);
        check.due("the last", x.now(1440), 1440);
        check.due("told", x.count(1), 1440);
        check.due("entries", x.count(7), 3);
    }

    private static void resting() {
        JudoHall x = new JudoHall();
        check.due("rest(120)", x.rest(120), 10);
        check.due("rest(0)", x.rest(0), 120);
        check.due("rest(121)", x.rest(121), Check.RANGE);
        check.due("rest(-1)", x.rest(-1), Check.RANGE);
        check.due("told", x.count(2), 0);
    }

    private static void beginning() {
        JudoHall x = new JudoHall();
        Check.fill(x, 0, 4);
        x.draw(0);
        check.due("no laws", x.begin(0, 0, 0), Check.STATE);
        check.due("no such fight", x.begin(0, 6, 0), Check.RANGE);
        check.due("no such class", x.begin(4, 0, 0), Check.RANGE);
        check.due("class not drawn", x.begin(1, 0, 0), Check.RANGE);
        check.due("no such mat", x.begin(0, 0, 4), Check.RANGE);
        check.due("mat -1", x.begin(0, 0, -1), Check.RANGE);
        Check.laws(x, "time 5;golden 5;sign ippon;");
        check.due("laws without a line", x.begin(0, 0, 0), Check.STATE);
        Check.laws(x, Check.IPPON);
        check.due("begin", x.begin(0, 0, 0), 1);
        check.due("is OPEN", x.begin(0, 0, 1), Check.STATE);
        check.due("mat not free", x.begin(0, 2, 0), Check.STATE);
        check.due("mat not free, and fights", x.begin(0, 1, 0), Check.STATE);
        check.due("WHITE fights", x.begin(0, 1, 1), Check.RESTS);
        check.due("others", x.begin(0, 2, 1), 1);
        check.due("OPEN ones", x.count(6), 2);
        x.now(3);
        x.event(0, 0, 0);
        x.event(1, 0, 0);
        check.due("is DONE", x.begin(0, 0, 0), Check.STATE);
        x.now(12);
        check.due("rests", x.begin(0, 1, 0), Check.RESTS);
        x.rest(9);
        check.due("rests no more", x.begin(0, 1, 0), 1);
        JudoHall y = Check.drawn(0, 6);
        check.due("OFF", y.begin(0, 4, 0), Check.STATE);
        check.due("a WALK", y.begin(0, 0, 0), Check.STATE);
        JudoHall z = Check.drawn(0, 3);
        z.begin(0, 1, 0);
        check.due("BLUE fights", z.begin(0, 2, 1), Check.RESTS);
    }

    private static void events() {
        JudoHall x = new JudoHall();
        check.due("no laws, no sign", x.event(0, 0, 0), Check.RANGE);
        Check.laws(x, "time 9;golden 0;sign a;sign b;win when mine b>=2;");
        Check.fill(x, 0, 2);
        x.draw(0);
        check.due("none there", x.event(0, 0, 0), Check.STATE);
        x.begin(0, 0, 1);
        check.due("mat 4", x.event(4, 0, 0), Check.RANGE);
        check.due("mat -1", x.event(-1, 0, 0), Check.RANGE);
        check.due("side 2", x.event(1, 2, 0), Check.RANGE);
        check.due("side -1", x.event(1, -1, 0), Check.RANGE);
        check.due("sign 2", x.event(1, 0, 2), Check.RANGE);
        check.due("sign -1", x.event(1, 0, -1), Check.RANGE);
        check.due("other mat", x.event(0, 0, 0), Check.STATE);
        check.due("goes on", x.event(1, 0, 1), Check.NONE);
        check.due("goes on with the other", x.event(1, 1, 1), Check.NONE);
        check.due("goes on with the other sign", x.event(1, 1, 0), Check.NONE);
        check.due("ends", x.event(1, 1, 1), 0);
        check.due("winner", x.fight(0, 0, 2), 1);
        check.due("points without a number", x.fight(0, 0, 5), 1);
        check.due("none any more", x.event(1, 1, 1), Check.STATE);
    }

    private static void mostOfASign() {
        JudoHall x = new JudoHall();
        Check.laws(x, "time 9;golden 0;sign a;win when mine a>98 and yours a>0;");
        Check.fill(x, 0, 2);
        x.draw(0);
        x.begin(0, 0, 0);
        for (int k = 0; k < 120; k++) x.event(0, 1, 0);
        check.due("99 at most", x.mat(0, 20), 99);
        check.due("the other's", x.mat(0, 10), 0);
        int entries = x.count(7);
        check.due("the event is done", x.undo(), entries - 1);
        check.due("99 still", x.mat(0, 20), 99);
        check.due("ends by it", x.event(0, 0, 0), 0);
        check.due("winner", x.fight(0, 0, 2), 1);
    }

    private static void ticks() {
        JudoHall x = new JudoHall();
        Check.laws(x, "time 9999;golden 0;sign a;win 3 when left=10;");
        Check.fill(x, 0, 2);
        x.draw(0);
        check.due("none there", x.tick(0, 1), Check.STATE);
        check.due("mat 4", x.tick(4, 1), Check.RANGE);
        check.due("mat -1", x.tick(-1, 1), Check.RANGE);
        check.due("0 seconds", x.tick(0, 0), Check.RANGE);
        check.due("10000 seconds", x.tick(0, 10000), Check.RANGE);
        x.begin(0, 0, 0);
        check.due("all but 11", x.tick(0, 9988), Check.NONE);
        check.due("LEFT", x.mat(0, 2), 11);
        check.due("more than LEFT", x.tick(0, 12), Check.RANGE);
        check.due("no entry", x.count(7), 8);
        check.due("goes by 10", x.tick(0, 1), 0);
        check.due("WHITE is asked first", x.fight(0, 0, 2), 0);
        x.undo();
        check.due("passes 10 by", x.tick(0, 2), Check.NONE);
        check.due("LEFT", x.mat(0, 2), 9);
    }

    private static JudoHall open(String text) {
        JudoHall x = new JudoHall();
        Check.laws(x, text);
        Check.fill(x, 0, 2);
        x.draw(0);
        x.begin(0, 0, 0);
        return x;
    }

    private static void timeAndGolden() {
        JudoHall x = open("time 4;golden 2;sign a;win 2 when extra and mine a>0;win 5 when over and not extra and mine a>1;");
        x.event(0, 1, 0);
        check.due("not over", x.tick(0, 3), Check.NONE);
        check.due("not extra", x.mat(0, 3), 0);
        check.due("over, nothing holds", x.tick(0, 1), Check.NONE);
        check.due("extra", x.mat(0, 3), 1);
        check.due("LEFT of the golden ones", x.mat(0, 2), 2);
        check.due("does not wait", x.mat(0, 4), 0);
        check.due("more than LEFT", x.tick(0, 3), Check.RANGE);
        check.due("asked when seconds pass", x.tick(0, 1), 0);
        check.due("winner", x.fight(0, 0, 2), 1);
        x.undo();
        check.due("asked behind an event", x.event(0, 0, 0), 0);
        check.due("WHITE has one, too", x.fight(0, 0, 2), 0);
        JudoHall y = open("time 4;golden 2;sign a;win 2 when extra and mine a>0;win 5 when over and not extra and mine a>1;");
        y.event(0, 1, 0);
        y.event(0, 1, 0);
        check.due("just over", y.tick(0, 4), 1);
        check.due("points", y.fight(0, 0, 5), 5);
        JudoHall z = open("time 4;golden 2;sign a;win when extra and left=0 and mine a>0;");
        z.tick(0, 4);
        z.event(0, 0, 0);
        check.due("golden time is over", z.tick(0, 2), 0);
        z.undo();
        z.undo();
        check.due("nothing holds", z.tick(0, 2), Check.NONE);
        check.due("waits", z.mat(0, 4), 1);
        check.due("LEFT none", z.mat(0, 2), 0);
        check.due("no event", z.event(0, 0, 0), Check.STATE);
        check.due("no seconds", z.tick(0, 1), Check.STATE);
        JudoHall w = open("time 4;golden 0;sign a;win when extra;");
        check.due("no golden ones", w.tick(0, 4), Check.NONE);
        check.due("waits at once", w.mat(0, 4), 1);
        check.due("no extra", w.mat(0, 3), 0);
    }

    private static void noTimeAtAll() {
        JudoHall x = open("time 0;golden 7;win when over;");
        check.due("goes on in EXTRA", x.mat(0, 3), 1);
        check.due("LEFT", x.mat(0, 2), 7);
        check.due("is OPEN", x.fight(0, 0, 3), 2);
        check.due("asked later", x.tick(0, 1), 0);
        JudoHall y = open("time 0;golden 0;win when over;");
        check.due("waits", y.mat(0, 4), 1);
        check.due("no extra", y.mat(0, 3), 0);
        check.due("tick", y.tick(0, 1), Check.STATE);
        check.due("decide", y.decide(0, 0), 0);
    }

    private static void decisions() {
        JudoHall x = new JudoHall();
        Check.laws(x, "time 1;golden 0;win 4 when extra;");
        Check.fill(x, 1, 2);
        Check.fill(x, 0, 2);
        x.draw(0);
        check.due("none there", x.decide(0, 0), Check.STATE);
        x.begin(0, 0, 0);
        check.due("does not wait", x.decide(0, 0), Check.STATE);
        x.tick(0, 1);
        check.due("mat 4", x.decide(4, 0), Check.RANGE);
        check.due("mat -1", x.decide(-1, 0), Check.RANGE);
        check.due("side 2", x.decide(0, 2), Check.RANGE);
        check.due("side -1", x.decide(0, -1), Check.RANGE);
        check.due("WHITE", x.decide(0, 0), 2);
        check.due("line", x.fight(0, 0, 4), Check.NONE);
        check.due("points", x.fight(0, 0, 5), 0);
        check.due("winner", x.fight(0, 0, 2), 2);
        check.due("DONE", x.fight(0, 0, 3), 3);
        check.due("end", x.fighter(3, 6), 0);
        x.undo();
        check.due("BLUE", x.decide(0, 1), 3);
    }

    /** Whether a cond holds behind one sign a of WHITE, two of it of BLUE and 5 of 9 seconds. */
    private static void holds(String cond, boolean want) {
        JudoHall x = open("time 9;golden 3;sign a;sign b;win when mine b=1 and (" + cond + ");");
        x.event(0, 0, 0);
        x.event(0, 1, 0);
        x.event(0, 1, 0);
        x.tick(0, 4);
        check.due(cond, x.event(0, 0, 1), want ? 0 : Check.NONE);
    }

    private static void conds() {
        holds("mine a=1", true);
        holds("yours a=2", true);
        holds("left=5", true);
        holds("over", false);
        holds("extra", false);
        holds("not extra", true);
        holds("not not extra", false);
        holds("1<2", true);
        holds("2<2", false);
        holds("2<=2", true);
        holds("3<=2", false);
        holds("2>1", true);
        holds("2>2", false);
        holds("2>=2", true);
        holds("1>=2", false);
        holds("2!=2", false);
        holds("1!=2", true);
        holds("1=2", false);
        holds("9-3-2=4", true);
        holds("9-3+2=8", true);
        holds("1-2<0", true);
        holds("mine a-yours a+left=4", true);
        holds("1=9-8", true);
        holds("1=1 or 1=2 and 1=2", true);
        holds("1=2 and 1=2 or 1=1", true);
        holds("(1=1 or 1=2) and 1=2", false);
        holds("1=2 and (1=2 or 1=1)", false);
        holds("not 1=1 or 1=1", true);
        holds("not (1=1 or 1=1)", false);
        holds("not 1=2 and 1=2", false);
        holds("not (1=2 and 1=2)", true);
        holds("not not (1=2 or not (1=1 and not 1=1))", true);
        holds("1=1 and not 1=2 and 1=1", true);
        holds("1=2 or 1=2 or not 1=1", false);
        holds("9999-9999=0", true);
    }

    private static void linesInOrder() {
        JudoHall x = open("time 9;golden 0;sign a;win 1 when yours a=2;win 2 when mine a=2;win 3 when mine a=0;");
        check.due("third line", x.event(0, 0, 0), 2);
        check.due("BLUE", x.fight(0, 0, 2), 1);
        check.due("points", x.fight(0, 0, 5), 3);
        JudoHall y = open("time 9;golden 0;sign a;win 1 when yours a=2;win 2 when mine a=2;");
        y.event(0, 0, 0);
        // line by line, not side by side: the first holds for BLUE, the second would for WHITE
        check.due("first line", y.event(0, 0, 0), 0);
        check.due("for BLUE", y.fight(0, 0, 2), 1);
        JudoHall z = open("time 9;golden 0;sign a;win 1 when mine a>=0;");
        check.due("both", z.event(0, 1, 0), 0);
        check.due("WHITE first", z.fight(0, 0, 2), 0);
    }

    private static void toldOfMats() {
        JudoHall x = new JudoHall();
        Check.laws(x, "time 9;golden 0;sign a;sign b;win when mine b>=9;");
        Check.fill(x, 3, 4);
        x.draw(3);
        x.begin(3, 2, 1);
        x.event(1, 0, 1);
        x.event(1, 1, 0);
        x.event(1, 1, 0);
        int[] want = {3, 2, 9, 0, 0};
        for (int w = 0; w < 5; w++) check.due("mat(1, " + w + ")", x.mat(1, w), want[w]);
        check.due("WHITE a", x.mat(1, 10), 0);
        check.due("WHITE b", x.mat(1, 11), 1);
        check.due("BLUE a", x.mat(1, 20), 2);
        check.due("BLUE b", x.mat(1, 21), 0);
        for (int w : new int[] {-1, 5, 9, 12, 19, 22, 30, Integer.MAX_VALUE, Integer.MIN_VALUE}) {
            check.due("mat(1, " + w + ")", x.mat(1, w), Check.NONE);
        }
        check.due("free mat", x.mat(0, 0), Check.NONE);
        check.due("mat 4", x.mat(4, 0), Check.NONE);
        check.due("mat -1", x.mat(-1, 0), Check.NONE);
        for (int k = 0; k < 8; k++) x.event(1, 0, 1);
        check.due("free again", x.mat(1, 0), Check.NONE);
        check.due("another fight", x.begin(3, 0, 1), 1);
        check.due("starts with none", x.mat(1, 11), 0);
        check.due("starts with none", x.mat(1, 20), 0);
    }
}
