/** Each edge that Terms II and III and promises 13 and 16 to 20 name for a FIGHT, its MAT and its seconds, on both sides. */
public final class FightEdgesTest {
    private static final Check check = new Check("FightEdgesTest");
    private static final int LEAST = Integer.MIN_VALUE, MOST = Integer.MAX_VALUE;
    /**
     * In Check.busy(), at minute 30: on MAT 0 FIGHT 1 of CLASS 0 (LEFT 5, one b of BLUE), on MAT 1 FIGHT 1 of CLASS 1, which
     * waits for a DECISION; FIGHT 0 of CLASS 0 is DONE, its FIGHT 5 may begin; of CLASS 1 0 is a WALK, 4 is OFF.
     */
    private static final Check.Made busy = Check::busy;

    public static void main(String[] args) {
        fightOfAnotherWhat();
        beginInRange();
        beginWithoutLaws();
        beginNotReady();
        beginOnAMatThatIsNotFree();
        everyMat();
        whoFights();
        whoRests();
        restOfTheLatestEnd();
        restOfABrokenOffFight();
        refusalsOfBeginInOrder();
        beginAndLog();
        eventInRange();
        eventInState();
        atMost99OfASign();
        eventAndLog();
        tickInRange();
        noMoreThanLeft();
        tickInState();
        tickAndLog();
        timeJustOver();
        nothingIsAskedAnew();
        goldenSeconds();
        noGoldenSeconds();
        noTime();
        neitherTimeNorGolden();
        linesAndSides();
        eachOfTwentyLines();
        pointsOfALine();
        decideInRange();
        decideInState();
        decideAndLog();
        comparisons();
        sums();
        andOrNot();
        brackets();
        classesThatAreNone();
        matOfAnotherWhat();
        signsToldOfMats();
        matUsedAgain();
        matUsedAgainWithEightSigns();
        matsSideBySide();
        check.end();
    }

    private static void refused(String what, Check.Call call, int want) { check.refused(what, busy, call, want); }

    /** A FIGHT by these laws on MAT 0. */
    private static JudoHall open(String text) {
        JudoHall x = new JudoHall();
        Check.laws(x, text);
        Check.fill(x, 0, 2);
        x.draw(0);
        x.begin(0, 0, 0);
        return x;
    }

    /** "time 2;golden 0;sign a;win when mine a>1;", fed with no call too many, and two who are drawn. */
    private static JudoHall ready() {
        JudoHall x = new JudoHall();
        x.feed(0x74696d65, 0x20323b67, 0x6f6c6465, 0x6e20303b, 0x7369676e);
        x.feed(0x20613b77, 0x696e2077, 0x68656e20, 0x6d696e65, 0x20613e31);
        x.feed(0x3b202020, 0x20202020, 0x20202020, 0x20202020, 0x20202020);
        x.laws();
        Check.fill(x, 0, 2);
        x.draw(0);
        return x;
    }

    private static JudoHall begun() {
        JudoHall x = ready();
        x.begin(0, 0, 0);
        return x;
    }

    private static JudoHall waiting() {
        JudoHall x = begun();
        x.tick(0, 2);
        return x;
    }

    private static JudoHall decided() {
        JudoHall x = waiting();
        x.decide(0, 1);
        return x;
    }

    /** "NONE when there is none such." */
    private static void fightOfAnotherWhat() {
        JudoHall x = Check.busy();
        for (int what : new int[] {-1, 8, LEAST, MOST}) check.due("what " + what, x.fight(0, 0, what), Check.NONE);
        for (int i : new int[] {-1, 6, 37, LEAST, MOST}) check.due("fight " + i, x.fight(0, i, 3), Check.NONE);
        for (int c : new int[] {-1, 2, 3, 4, LEAST, MOST}) check.due("class " + c, x.fight(c, 0, 3), Check.NONE);
        check.due("the last of a POOL of 4", x.fight(0, 5, 3), 1);
        check.due("the last of a TREE of 6", x.fight(1, 8, 3), 0);
        check.due("none behind it", x.fight(1, 9, 3), Check.NONE);
        int[][] want = {{0, 1, 0, 3, 0, 10, Check.NONE, 0}, {1, 2, Check.NONE, 2, Check.NONE, 0, 0, Check.NONE},
            {2, 3, Check.NONE, 1, Check.NONE, 0, Check.NONE, Check.NONE}};
        for (int i = 0; i < 3; i++) {
            for (int w = 0; w < 8; w++) check.due("fight(0, " + i + ", " + w + ")", x.fight(0, i, w), want[i][w]);
        }
        int[] walk = {4, Check.NONE, 4, 4, Check.NONE, 0, Check.NONE, Check.NONE};
        int[] off = {4, Check.NONE, Check.NONE, 0, Check.NONE, 0, Check.NONE, Check.NONE};
        for (int w = 0; w < 8; w++) check.due("a WALK " + w, x.fight(1, 0, w), walk[w]);
        for (int w = 0; w < 8; w++) check.due("an OFF one " + w, x.fight(1, 4, w), off[w]);
    }

    /** "RANGE: no such FIGHT, MAT." */
    private static void beginInRange() {
        refused("class -1", x -> x.begin(-1, 0, 2), Check.RANGE);
        refused("class 4", x -> x.begin(4, 0, 2), Check.RANGE);
        refused("class not drawn", x -> x.begin(2, 0, 2), Check.RANGE);
        refused("fight -1", x -> x.begin(0, -1, 2), Check.RANGE);
        refused("fight 6 of 6", x -> x.begin(0, 6, 2), Check.RANGE);
        refused("fight 9 of 9", x -> x.begin(1, 9, 2), Check.RANGE);
        refused("mat -1", x -> x.begin(0, 5, -1), Check.RANGE);
        refused("mat 4", x -> x.begin(0, 5, 4), Check.RANGE);
        refused("greatest ints", x -> x.begin(MOST, MOST, MOST), Check.RANGE);
        refused("least ints", x -> x.begin(LEAST, LEAST, LEAST), Check.RANGE);
        check.due("fight 5 of 6", Check.busy().begin(0, 5, 2), 1);
    }

    /** "STATE: there are no LAWS (no line)." */
    private static void beginWithoutLaws() {
        Check.Made lawless = () -> {
            JudoHall x = new JudoHall();
            Check.fill(x, 0, 2);
            x.draw(0);
            return x;
        };
        check.refused("no LAWS", lawless, x -> x.begin(0, 0, 0), Check.STATE);
        JudoHall x = lawless.hall();
        Check.laws(x, "time 5;golden 5;sign a;");
        check.due("no line", x.begin(0, 0, 0), Check.STATE);
        Check.laws(x, "time 5;golden 5;win when extra;");
        check.due("one line", x.begin(0, 0, 0), 1);
        x.undo();
        x.undo();
        check.due("the line is taken back", x.begin(0, 0, 0), Check.STATE);
    }

    /** "STATE: .. it is not READY." */
    private static void beginNotReady() {
        refused("DONE", x -> x.begin(0, 0, 2), Check.STATE);
        refused("OPEN", x -> x.begin(0, 1, 2), Check.STATE);
        refused("OPEN, on its own MAT", x -> x.begin(0, 1, 0), Check.STATE);
        refused("a WALK", x -> x.begin(1, 0, 2), Check.STATE);
        refused("OFF, one is known", x -> x.begin(1, 4, 2), Check.STATE);
        refused("OFF, none is known", x -> x.begin(1, 6, 2), Check.STATE);
        check.due("READY", Check.busy().begin(1, 2, 2), 1);
    }

    /** "STATE: .. the MAT is not free": a FIGHT that waits is on it, too. */
    private static void beginOnAMatThatIsNotFree() {
        refused("goes on", x -> x.begin(0, 5, 0), Check.STATE);
        refused("waits", x -> x.begin(0, 5, 1), Check.STATE);
        JudoHall x = Check.busy();
        x.decide(1, 0);
        check.due("free now", x.begin(0, 5, 1), 1);
    }

    /** "MATS 0 .. 3." */
    private static void everyMat() {
        JudoHall x = Check.drawn(0, 8);
        for (int m = 0; m < 4; m++) check.due("mat " + m, x.begin(0, m, m), 1);
        check.due("OPEN ones", x.count(6), 4);
        for (int m = 0; m < 4; m++) check.due("told", x.mat(m, 1), m);
    }

    /** "RESTS": somebody fights, as WHITE or as BLUE, there or here. */
    private static void whoFights() {
        refused("WHITE is BLUE there", x -> x.begin(0, 2, 2), Check.RESTS);
        refused("BLUE is BLUE there", x -> x.begin(0, 3, 2), Check.RESTS);
        refused("WHITE is WHITE there", x -> x.begin(0, 4, 2), Check.RESTS);
        JudoHall x = Check.drawn(0, 3);
        x.begin(0, 1, 3);
        check.due("BLUE is WHITE there", x.begin(0, 0, 0), Check.RESTS);
        x.event(3, 0, 0);
        check.due("fights no more, REST 0", x.begin(0, 0, 0), 1);
    }

    /** "A FIGHTER RESTS till REST minutes are over since a FIGHT of it ended." */
    private static void whoRests() {
        for (int rest : new int[] {1, 10, 119, 120}) {
            JudoHall x = Check.drawn(0, 3);
            x.rest(rest);
            x.now(50);
            Check.win(x, 0, 0, 0);
            check.due("at once", x.begin(0, 1, 0), Check.RESTS);
            x.now(50 + rest - 1);
            check.due("WHITE, a minute less than " + rest, x.begin(0, 1, 0), Check.RESTS);
            check.due("BLUE's opponent, too", x.begin(0, 2, 0), Check.RESTS);
            x.now(50 + rest);
            check.due("when " + rest + " are over", x.begin(0, 1, 0), 1);
        }
        JudoHall y = Check.drawn(0, 3);
        Check.win(y, 0, 0, 0);
        check.due("REST 0", y.begin(0, 1, 0), 1);
        y.undo();
        y.rest(1);
        check.due("REST 1 now", y.begin(0, 1, 0), Check.RESTS);
        JudoHall z = Check.drawn(0, 2);
        z.rest(120);
        check.due("never fought", z.begin(0, 0, 0), 1);
    }

    /** "Latest": of two ends the later one counts, and a struck result's end, too. */
    private static void restOfTheLatestEnd() {
        JudoHall x = Check.drawn(0, 3);
        x.rest(10);
        Check.win(x, 0, 0, 0);
        x.now(10);
        Check.win(x, 0, 1, 0);
        check.due("of 1", x.fighter(1, 6), 10);
        check.due("of 0", x.fighter(0, 6), 0);
        x.now(19);
        check.due("BLUE ended at 10", x.begin(0, 2, 0), Check.RESTS);
        x.now(20);
        check.due("over", x.begin(0, 2, 0), 1);
        x.undo();
        x.undo();
        x.strike(0, 1);
        check.due("the end stays", x.fighter(1, 6), 10);
        check.due("who fought rests", x.begin(0, 1, 0), Check.RESTS);
    }

    /** "Or was broken off." */
    private static void restOfABrokenOffFight() {
        JudoHall x = Check.drawn(0, 8);
        for (int i = 0; i < 2; i++) Check.win(x, 0, i, 0);
        x.rest(5);
        x.now(100);
        x.begin(0, 4, 0);
        x.now(103);
        check.due("struck", x.strike(0, 0), 2);
        check.due("who was broken off", x.fighter(4, 6), 103);
        check.due("WHITE, too", x.fighter(0, 6), 103);
        check.due("who only lost then", x.fighter(7, 6), 0);
        x.now(107);
        check.due("rests", x.begin(0, 0, 0), Check.RESTS);
        x.now(108);
        check.due("over", x.begin(0, 0, 0), 1);
    }

    /** RANGE, STATE, RESTS: the first that fits. */
    private static void refusalsOfBeginInOrder() {
        refused("RANGE ahead of STATE", x -> x.begin(0, 0, 4), Check.RANGE);
        refused("STATE (the MAT) ahead of RESTS", x -> x.begin(0, 2, 0), Check.STATE);
        check.aheadOfFull("begin RANGE", FightEdgesTest::ready, x -> x.begin(0, 0, 4), Check.RANGE);
        check.aheadOfFull("begin STATE", FightEdgesTest::begun, x -> x.begin(0, 0, 1), Check.STATE);
        Check.Made rests = () -> {
            JudoHall x = decided();
            x.strike(0, 0);
            return x;
        };
        check.aheadOfFull("begin RESTS", rests, x -> x.begin(0, 0, 1), Check.RESTS);
    }

    private static void beginAndLog() {
        check.act("begin", FightEdgesTest::ready, x -> x.begin(0, 0, 3), 1);
    }

    /** "RANGE: no such MAT, side, sign." */
    private static void eventInRange() {
        refused("mat -1", x -> x.event(-1, 0, 0), Check.RANGE);
        refused("mat 4", x -> x.event(4, 0, 0), Check.RANGE);
        refused("side -1", x -> x.event(0, -1, 0), Check.RANGE);
        refused("side 2", x -> x.event(0, 2, 0), Check.RANGE);
        refused("sign -1", x -> x.event(0, 0, -1), Check.RANGE);
        refused("sign 2 of 2", x -> x.event(0, 0, 2), Check.RANGE);
        refused("greatest ints", x -> x.event(MOST, MOST, MOST), Check.RANGE);
        refused("least ints", x -> x.event(LEAST, LEAST, LEAST), Check.RANGE);
        refused("RANGE ahead of STATE", x -> x.event(2, 0, 2), Check.RANGE);
        check.due("sign 1 of 2", Check.busy().event(0, 0, 1), Check.NONE);
        check.due("sign 0, side 1", Check.busy().event(0, 1, 0), 0);
        JudoHall y = open("time 5;golden 0;win when over;");
        check.due("laws without signs", y.event(0, 0, 0), Check.RANGE);
    }

    /** "STATE: none is there, or it waits for a DECISION." */
    private static void eventInState() {
        refused("none is there", x -> x.event(2, 0, 0), Check.STATE);
        refused("it waits", x -> x.event(1, 0, 0), Check.STATE);
        JudoHall x = begun();
        check.due("goes on", x.event(0, 0, 0), Check.NONE);
        check.due("ends", x.event(0, 0, 0), 0);
        check.due("none is there any more", x.event(0, 0, 0), Check.STATE);
    }

    /** "(A sign's count is 99 at most.)" */
    private static void atMost99OfASign() {
        JudoHall x = open("time 9;golden 0;sign a;win 5 when mine a>99;win 4 when mine a=99 and yours a=1;");
        for (int k = 1; k <= 99; k++) check.due("event " + k, x.event(0, 0, 0), Check.NONE);
        check.due("the 99th", x.mat(0, 10), 99);
        int entries = x.count(7);
        check.due("one more goes on", x.event(0, 0, 0), Check.NONE);
        check.due("99 still", x.mat(0, 10), 99);
        check.due("it was done", x.count(7), entries + 1);
        check.due("BLUE has its own", x.mat(0, 20), 0);
        check.due("undo of it", x.undo(), entries);
        check.due("99 still", x.mat(0, 10), 99);
        x.undo();
        check.due("98", x.mat(0, 10), 98);
        x.event(0, 0, 0);
        check.due("ends by the 99", x.event(0, 1, 0), 1);
    }

    private static void eventAndLog() {
        check.act("event", FightEdgesTest::begun, x -> x.event(0, 0, 0), Check.NONE);
        Check.Made one = () -> {
            JudoHall x = begun();
            x.event(0, 1, 0);
            return x;
        };
        check.act("event that ends", one, x -> x.event(0, 1, 0), 0);
        check.aheadOfFull("event RANGE", FightEdgesTest::begun, x -> x.event(0, 0, 1), Check.RANGE);
        check.aheadOfFull("event STATE", FightEdgesTest::waiting, x -> x.event(0, 0, 0), Check.STATE);
    }

    /** "Seconds pass, 1 .. 9999"; "RANGE: no such MAT, seconds". */
    private static void tickInRange() {
        refused("mat -1", x -> x.tick(-1, 1), Check.RANGE);
        refused("mat 4", x -> x.tick(4, 1), Check.RANGE);
        refused("seconds 0", x -> x.tick(0, 0), Check.RANGE);
        refused("seconds -1", x -> x.tick(0, -1), Check.RANGE);
        refused("seconds 10000", x -> x.tick(0, 10000), Check.RANGE);
        refused("greatest ints", x -> x.tick(MOST, MOST), Check.RANGE);
        refused("least ints", x -> x.tick(LEAST, LEAST), Check.RANGE);
        refused("RANGE ahead of STATE", x -> x.tick(2, 0), Check.RANGE);
        refused("RANGE ahead of STATE, above", x -> x.tick(2, 10000), Check.RANGE);
        check.due("1 second", Check.busy().tick(0, 1), Check.NONE);
        JudoHall y = open("time 9999;golden 9999;win when extra and left=0;");
        check.due("10000 of 9999", y.tick(0, 10000), Check.RANGE);
        check.due("9999 of 9999", y.tick(0, 9999), Check.NONE);
        check.due("EXTRA", y.mat(0, 3), 1);
        check.due("9999 golden ones", y.tick(0, 9999), 0);
    }

    /** "Or more than LEFT." */
    private static void noMoreThanLeft() {
        refused("6 of 5", x -> x.tick(0, 6), Check.RANGE);
        JudoHall x = Check.busy();
        check.due("4 of 5", x.tick(0, 4), Check.NONE);
        check.due("LEFT", x.mat(0, 2), 1);
        check.due("2 of 1", x.tick(0, 2), Check.RANGE);
        check.due("1 of 1", x.tick(0, 1), Check.NONE);
        check.due("golden ones", x.mat(0, 2), 3);
        check.due("4 of 3", x.tick(0, 4), Check.RANGE);
        check.due("3 of 3", x.tick(0, 3), Check.NONE);
        check.due("none LEFT", x.mat(0, 2), 0);
        check.due("waits", x.mat(0, 4), 1);
    }

    /** "STATE as event()." */
    private static void tickInState() {
        refused("none is there", x -> x.tick(2, 1), Check.STATE);
        refused("it waits", x -> x.tick(1, 1), Check.STATE);
        JudoHall x = open("time 5;golden 0;sign a;win when left=3;");
        check.due("ends", x.tick(0, 2), 0);
        check.due("none is there any more", x.tick(0, 1), Check.STATE);
    }

    private static void tickAndLog() {
        check.act("tick", FightEdgesTest::begun, x -> x.tick(0, 1), Check.NONE);
        check.act("tick to the end", FightEdgesTest::begun, x -> x.tick(0, 2), Check.NONE);
        check.aheadOfFull("tick RANGE", FightEdgesTest::begun, x -> x.tick(0, 0), Check.RANGE);
        check.aheadOfFull("tick more than LEFT", FightEdgesTest::begun, x -> x.tick(0, 3), Check.RANGE);
        check.aheadOfFull("tick STATE", FightEdgesTest::waiting, x -> x.tick(0, 1), Check.STATE);
    }

    /** "over: 1 in EXTRA, and when the time is just over; extra: 1 in EXTRA." */
    private static void timeJustOver() {
        JudoHall x = open("time 5;golden 3;sign a;win 2 when over and not extra;win 3 when extra;");
        check.due("a second LEFT", x.tick(0, 4), Check.NONE);
        check.due("an event then", x.event(0, 0, 0), Check.NONE);
        check.due("just over", x.tick(0, 1), 0);
        JudoHall y = open("time 5;golden 3;sign a;sign b;win 2 when over and mine a>0;win 3 when extra and mine b>0;");
        y.tick(0, 5);
        check.due("over in EXTRA", y.event(0, 1, 0), 0);
        y.undo();
        check.due("extra in EXTRA", y.event(0, 1, 1), 1);
        JudoHall z = open("time 5;golden 3;sign a;win when extra and left=1;");
        check.due("1 LEFT of the time", z.tick(0, 4), Check.NONE);
        check.due("0 LEFT of the time", z.tick(0, 1), Check.NONE);
        check.due("1 LEFT of the golden ones", z.tick(0, 2), 0);
    }

    /** "When the time is over so and none holds, EXTRA begins (nothing is asked anew)." */
    private static void nothingIsAskedAnew() {
        JudoHall x = open("time 2;golden 3;sign a;win 2 when extra;");
        check.due("the time is over", x.tick(0, 2), Check.NONE);
        check.due("OPEN", x.fight(0, 0, 3), 2);
        check.due("in EXTRA", x.mat(0, 3), 1);
        check.due("LEFT", x.mat(0, 2), 3);
        check.due("doesn't wait", x.mat(0, 4), 0);
        check.due("asked a second later", x.tick(0, 1), 0);
        JudoHall y = open("time 2;golden 3;sign a;win 2 when left=3;");
        check.due("LEFT was none when it was asked", y.tick(0, 2), Check.NONE);
        check.due("asked behind an event", y.event(0, 0, 0), 0);
    }

    /** "Golden ones (EXTRA: 0 .. golden)"; "when EXTRA is over: it waits for a DECISION". */
    private static void goldenSeconds() {
        JudoHall x = open("time 1;golden 1;sign a;win when mine a>0 and left=0 and extra;");
        x.tick(0, 1);
        check.due("one golden one", x.mat(0, 2), 1);
        check.due("the last one", x.tick(0, 1), Check.NONE);
        check.due("waits", x.mat(0, 4), 1);
        check.due("no event", x.event(0, 0, 0), Check.STATE);
        x.undo();
        check.due("waits no more", x.mat(0, 4), 0);
        x.event(0, 1, 0);
        check.due("asked ahead of the wait", x.tick(0, 1), 0);
        check.due("BLUE", x.fight(0, 0, 2), 1);
    }

    /** "Of 0 none"; "(at once, if it has none)". */
    private static void noGoldenSeconds() {
        JudoHall x = open("time 2;golden 0;sign a;win 3 when extra;win 4 when over and mine a=1;");
        check.due("a second LEFT", x.tick(0, 1), Check.NONE);
        check.due("doesn't wait", x.mat(0, 4), 0);
        check.due("the last one", x.tick(0, 1), Check.NONE);
        check.due("waits at once", x.mat(0, 4), 1);
        check.due("no EXTRA", x.mat(0, 3), 0);
        check.due("none LEFT", x.mat(0, 2), 0);
        x.undo();
        x.event(0, 0, 0);
        check.due("a line ahead of it", x.tick(0, 1), 1);
    }

    /** "(With time 0 EXTRA begins so .. as the FIGHT begins; no line is asked then.)" */
    private static void noTime() {
        JudoHall x = open("time 0;golden 2;sign a;win 3 when over;");
        check.due("OPEN", x.fight(0, 0, 3), 2);
        check.due("EXTRA", x.mat(0, 3), 1);
        check.due("LEFT", x.mat(0, 2), 2);
        check.due("doesn't wait", x.mat(0, 4), 0);
        check.due("one entry", x.count(7), 7);
        check.due("asked behind an event", x.event(0, 0, 0), 0);
        JudoHall y = open("time 1;golden 2;sign a;win 3 when over;");
        check.due("time 1: no EXTRA", y.mat(0, 3), 0);
        check.due("time 1: not over", y.event(0, 0, 0), Check.NONE);
    }

    /** "(.. or it waits, as the FIGHT begins; no line is asked then.)" */
    private static void neitherTimeNorGolden() {
        JudoHall x = open("time 0;golden 0;sign a;win 3 when over;win 4 when 1=1;");
        check.due("OPEN", x.fight(0, 0, 3), 2);
        check.due("waits", x.mat(0, 4), 1);
        check.due("LEFT", x.mat(0, 2), 0);
        check.due("no event", x.event(0, 0, 0), Check.STATE);
        check.due("no seconds", x.tick(0, 1), Check.STATE);
        check.due("a DECISION", x.decide(0, 1), 1);
        check.due("no line", x.fight(0, 0, 4), Check.NONE);
        check.due("POINTS", x.fight(0, 0, 5), 0);
    }

    /** "Line by line, WHITE as mine first, then BLUE: the first that holds ends it." */
    private static void linesAndSides() {
        JudoHall x = open("time 9;golden 0;sign a;win when mine a=2;win when 1=1;");
        check.due("the last line", x.event(0, 1, 0), 1);
        check.due("WHITE first", x.fight(0, 0, 2), 0);
        JudoHall y = open("time 9;golden 0;sign a;win when mine a=1;win when 1=1;");
        check.due("the first line", y.event(0, 1, 0), 0);
        check.due("for BLUE, ahead of the last for WHITE", y.fight(0, 0, 2), 1);
    }

    /** "With POINTS (1 without a NUMBER)": 0 and 9999, too. */
    private static void pointsOfALine() {
        String[] texts = {"win when", "win 0 when", "win 1 when", "win 9999 when", "win 0012 when"};
        int[] points = {1, 0, 1, 9999, 12};
        for (int k = 0; k < texts.length; k++) {
            JudoHall x = open("time 9;golden 0;sign a;win 8 when extra;" + texts[k] + " mine a=1;");
            check.due("line", x.event(0, 0, 0), 1);
            check.due("POINTS of " + texts[k], x.fight(0, 0, 5), points[k]);
        }
    }

    private static void decideInRange() {
        refused("mat -1", x -> x.decide(-1, 0), Check.RANGE);
        refused("mat 4", x -> x.decide(4, 0), Check.RANGE);
        refused("side -1", x -> x.decide(1, -1), Check.RANGE);
        refused("side 2", x -> x.decide(1, 2), Check.RANGE);
        refused("greatest ints", x -> x.decide(MOST, MOST), Check.RANGE);
        refused("least ints", x -> x.decide(LEAST, LEAST), Check.RANGE);
        refused("RANGE ahead of STATE", x -> x.decide(2, 2), Check.RANGE);
        check.due("WHITE", Check.busy().decide(1, 0), 8);
        check.due("BLUE", Check.busy().decide(1, 1), 7);
    }

    /** "STATE: none is there, or it doesn't wait." */
    private static void decideInState() {
        refused("none is there", x -> x.decide(2, 0), Check.STATE);
        refused("doesn't wait", x -> x.decide(0, 0), Check.STATE);
        JudoHall x = Check.busy();
        x.decide(1, 1);
        check.due("none is there any more", x.decide(1, 1), Check.STATE);
        check.due("POINTS", x.fight(1, 1, 5), 0);
        check.due("no line", x.fight(1, 1, 4), Check.NONE);
        check.due("DONE", x.fight(1, 1, 3), 3);
        check.due("its minute", x.fight(1, 1, 7), 30);
    }

    private static void decideAndLog() {
        check.act("decide", FightEdgesTest::waiting, x -> x.decide(0, 1), 1);
        check.aheadOfFull("decide RANGE", FightEdgesTest::waiting, x -> x.decide(0, 2), Check.RANGE);
        check.aheadOfFull("decide STATE", FightEdgesTest::begun, x -> x.decide(0, 1), Check.STATE);
    }

    /** "NONE when none is there, or for another what." */
    private static void matOfAnotherWhat() {
        JudoHall x = Check.busy();
        for (int m : new int[] {-1, 4, LEAST, MOST}) {
            for (int what : new int[] {0, 1, 2, 3, 4, 10, 20}) check.due("mat " + m, x.mat(m, what), Check.NONE);
        }
        for (int what : new int[] {0, 1, 2, 3, 4, 10, 20}) check.due("a free one", x.mat(2, what), Check.NONE);
        for (int what : new int[] {-1, 5, 6, 7, 8, 9, LEAST, MOST}) check.due("what " + what, x.mat(0, what), Check.NONE);
        int[][] want = {{0, 1, 5, 0, 0}, {1, 1, 0, 1, 1}};
        for (int m = 0; m < 2; m++) {
            for (int w = 0; w < 5; w++) check.due("mat(" + m + ", " + w + ")", x.mat(m, w), want[m][w]);
        }
    }

    /** "10 + k, 20 + k: how many of sign k WHITE, BLUE have", for the signs that are told. */
    private static void signsToldOfMats() {
        for (int signs = 1; signs <= 8; signs++) {
            StringBuilder text = new StringBuilder("time 9;golden 0;");
            for (int k = 0; k < signs; k++) text.append("sign s").append((char) ('a' + k)).append(';');
            JudoHall x = open(text + "win when over;");
            x.event(0, 0, signs - 1);
            x.event(0, 1, 0);
            x.event(0, 1, 0);
            check.due("the last of WHITE", x.mat(0, 10 + signs - 1), 1);
            check.due("the first of BLUE", x.mat(0, 20), 2);
            check.due("none behind the last of WHITE", x.mat(0, 10 + signs), Check.NONE);
            check.due("none behind the last of BLUE", x.mat(0, 20 + signs), Check.NONE);
            check.due("what 18", x.mat(0, 18), Check.NONE);
            check.due("what 19", x.mat(0, 19), Check.NONE);
            check.due("what 28", x.mat(0, 28), Check.NONE);
        }
    }

    private static void holds(String cond, boolean want) {
        JudoHall x = open("time 9;golden 3;sign a;win when " + cond + ";");
        check.due(cond, x.event(0, 0, 0), want ? 0 : Check.NONE);
    }

    /** "sum comp sum": each of the six one below, at and one above its edge. */
    private static void comparisons() {
        String[] comps = {"<", "<=", ">", ">=", "=", "!="};
        boolean[][] due = {{true, false, false}, {true, true, false}, {false, false, true}, {false, true, true}, {false, true, false},
            {true, false, true}};
        for (int k = 0; k < comps.length; k++) {
            for (int left = 0; left < 3; left++) {
                holds(left + comps[k] + "1", due[k][left]);
                holds(9997 + left + comps[k] + "9998", due[k][left]);
                holds(left + "-1-1" + comps[k] + "1-2", due[k][left]);
            }
        }
    }

    /** Sums "each from the left", below 0 and above 9999, too. */
    private static void sums() {
        holds("0-1<0", true);
        holds("0-9999-9999<0-9999", true);
        holds("9999+9999>9999", true);
        holds("9999+1-1=9999", true);
        holds("5-3-1=1", true);
        holds("5-3-1=3", false);
        holds("5-3+1=3", true);
        holds("left-9=mine a-1", true);
        StringBuilder most = new StringBuilder("9999");
        for (int k = 1; k < 74; k++) most.append("+9999");
        StringBuilder same = new StringBuilder("9999");
        for (int k = 1; k < 74; k++) same.append("+9999");
        holds(most + "=" + same, true);
        holds(most + ">" + same + "-1", true);
    }

    private static boolean bit(int mask, int k) { return (mask >> k & 1) == 1; }

    /** A cond that holds or not, without or with "not" ahead. */
    private static String atom(boolean holds, boolean not) {
        return not ? holds ? "not 1=2" : "not 1=1" : holds ? "1=1" : "1=2";
    }

    /** "By or, and, from the loosest on .. then "not" ahead": one to four, no brackets, each that holds and doesn't. */
    private static void andOrNot() {
        for (int many = 1; many <= 4; many++) {
            for (int mask = 0; mask < 1 << 3 * many - 1; mask++) {
                StringBuilder cond = new StringBuilder();
                boolean any = false;
                boolean all = true;
                for (int k = 0; k < many; k++) {
                    boolean or = k > 0 && bit(mask, 2 * many + k - 1);
                    if (k > 0) cond.append(or ? " or " : " and ");
                    if (or) {
                        any |= all;
                        all = true;
                    }
                    cond.append(atom(bit(mask, k), bit(mask, many + k)));
                    all &= bit(mask, k);
                }
                holds(cond.toString(), any || all);
            }
        }
    }

    private static boolean joined(boolean a, boolean or, boolean b) { return or ? a || b : a && b; }

    /** "(" cond ")", with "not" ahead and without, first and last. */
    private static void brackets() {
        for (int mask = 0; mask < 64; mask++) {
            boolean a = bit(mask, 0), b = bit(mask, 1), c = bit(mask, 2), first = bit(mask, 3), second = bit(mask, 4), not = bit(mask, 5);
            String one = first ? " or " : " and ", two = second ? " or " : " and ", ahead = not ? "not" : "";
            String x = atom(a, false), y = atom(b, true), z = atom(c, false);
            holds(ahead + "(" + x + one + y + ")" + two + z, joined(joined(a, first, b) != not, second, c));
            holds(x + one + ahead + "(" + y + two + z + ")", joined(a, first, joined(b, second, c) != not));
            holds(ahead + "((" + x + ")" + one + "(" + y + "))" + two + "(" + z + ")", joined(joined(a, first, b) != not, second, c));
        }
    }

    /** "CLASSES 0 .. 3": none is below and none behind, whatever there is of FIGHTERS. */
    private static void classesThatAreNone() {
        for (int grams = 0; grams < 4; grams++) {
            JudoHall x = new JudoHall();
            Check.laws(x, Check.IPPON);
            for (int k = 0; k < 8; k++) x.weigh(x.enter(k, k / 2), grams);
            for (int c = 0; c < 4; c++) x.draw(c);
            x.plan(4, 5);
            for (int c : new int[] {-1, 4}) {
                for (int i = 0; i < 3; i++) {
                    for (int what = 0; what < 8; what++) check.due("fight of " + c, x.fight(c, i, what), Check.NONE);
                    check.due("begin of " + c, x.begin(c, i, 0), Check.RANGE);
                    check.due("strike of " + c, x.strike(c, i), Check.RANGE);
                    check.due("planned of " + c, x.planned(c, i, 0), Check.NONE);
                    check.due("medal of " + c, x.medal(c, i), Check.NONE);
                }
                for (int what = 0; what < 7; what++) check.due("about " + c, x.about(c, what), Check.NONE);
                check.due("PLACE of " + c, x.about(c, 100), Check.NONE);
                check.due("draw of " + c, x.draw(c), Check.RANGE);
            }
        }
    }

    /** A MAT that had a FIGHT in EXTRA, or one that waited, begins the next with all of it new. */
    private static void matUsedAgain() {
        JudoHall x = new JudoHall();
        Check.laws(x, "time 5;golden 3;sign a;sign b;win when mine a>0;");
        Check.fill(x, 0, 4);
        x.draw(0);
        x.begin(0, 0, 2);
        x.event(2, 1, 1);
        x.tick(2, 5);
        x.event(2, 0, 0);
        check.due("behind EXTRA", x.begin(0, 2, 2), 1);
        int[] fresh = {0, 2, 5, 0, 0};
        for (int w = 0; w < 5; w++) check.due("behind EXTRA " + w, x.mat(2, w), fresh[w]);
        for (int k = 0; k < 2; k++) check.due("no sign of WHITE", x.mat(2, 10 + k), 0);
        for (int k = 0; k < 2; k++) check.due("no sign of BLUE", x.mat(2, 20 + k), 0);
        x.tick(2, 5);
        x.tick(2, 3);
        x.decide(2, 0);
        x.now(10);
        check.due("behind a DECISION", x.begin(0, 3, 2), 1);
        int[] again = {0, 3, 5, 0, 0};
        for (int w = 0; w < 5; w++) check.due("behind a DECISION " + w, x.mat(2, w), again[w]);
        check.due("goes on", x.event(2, 0, 1), Check.NONE);
    }

    /** Each of eight signs of both sides is none at the next begin. */
    private static void matUsedAgainWithEightSigns() {
        JudoHall x = new JudoHall();
        Check.laws(x, "time 9;golden 0;sign a;sign b;sign c;sign d;sign e;sign f;sign g;sign h;win when left=1;");
        Check.fill(x, 0, 4);
        x.draw(0);
        x.begin(0, 0, 1);
        for (int k = 0; k < 8; k++) {
            x.event(1, 0, k);
            x.event(1, 1, k);
        }
        for (int k = 0; k < 8; k++) check.due("one of each", x.mat(1, 10 + k) + x.mat(1, 20 + k), 2);
        check.due("ends", x.tick(1, 8), 0);
        check.due("the next", x.begin(0, 2, 1), 1);
        for (int k = 0; k < 8; k++) check.due("WHITE's " + k, x.mat(1, 10 + k), 0);
        for (int k = 0; k < 8; k++) check.due("BLUE's " + k, x.mat(1, 20 + k), 0);
    }

    /** Four MATS, four CLASSES, eight signs: none takes from another. */
    private static void matsSideBySide() {
        JudoHall x = new JudoHall();
        Check.laws(x, "time 9;golden 0;sign a;sign b;sign c;sign d;sign e;sign f;sign g;sign h;win when over;");
        for (int c = 0; c < 4; c++) Check.fill(x, c, 3);
        for (int c = 0; c < 4; c++) x.draw(c);
        for (int m = 3; m >= 0; m--) check.due("begin", x.begin(3 - m, m % 3, m), 1);
        for (int m = 0; m < 4; m++) {
            for (int k = 0; k <= m; k++) x.event(m, 0, m);
            for (int k = 0; k < 5 - m; k++) x.event(m, 1, 7 - m);
            x.tick(m, m + 1);
        }
        for (int m = 0; m < 4; m++) {
            int[] want = {3 - m, m % 3, 8 - m, 0, 0};
            for (int w = 0; w < 5; w++) check.due("mat(" + m + ", " + w + ")", x.mat(m, w), want[w]);
            for (int k = 0; k < 8; k++) check.due("WHITE's " + k + " on " + m, x.mat(m, 10 + k), k == m ? m + 1 : 0);
            for (int k = 0; k < 8; k++) check.due("BLUE's " + k + " on " + m, x.mat(m, 20 + k), k == 7 - m ? 5 - m : 0);
        }
    }

    /** Each of 20 lines as the one that holds. */
    private static void eachOfTwentyLines() {
        for (int line = 0; line < 20; line++) {
            StringBuilder text = new StringBuilder("time 9;golden 0;sign a;");
            for (int k = 0; k < 20; k++) text.append("win ").append(50 + k).append(k == line ? " when mine a=1;" : " when extra or over;");
            JudoHall x = open(text.toString());
            check.due("nothing holds", x.tick(0, 1), Check.NONE);
            check.due("line " + line, x.event(0, 1, 0), line);
            check.due("its POINTS", x.fight(0, 0, 5), 50 + line);
            check.due("its winner", x.fight(0, 0, 2), 1);
        }
    }
}
