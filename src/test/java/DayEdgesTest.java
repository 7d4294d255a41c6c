/** Each edge that Terms III and promises 14, 15 and 23 to 26 name for the day, THE LOG and the plan, on both sides. */
public final class DayEdgesTest {
    private static final Check check = new Check("DayEdgesTest");
    private static final int LEAST = Integer.MIN_VALUE, MOST = Integer.MAX_VALUE;
    private static final Check.Made busy = Check::busy;

    public static void main(String[] args) {
        minutesOfTheDay();
        minutesAndLog();
        minutesOfRest();
        restAndLog();
        fiveHundredEntries();
        actsThatChangeNothing();
        callsThatAreNoActs();
        matsAndMinutesOfAPlan();
        nothingToPlan();
        fromThePresentMinuteOn();
        matThatIsFree();
        matsInOrder();
        restBehindFightsAhead();
        fightersWhoRest();
        fightersOfPlannedOnes();
        openOnesInAPlan();
        doneAndWalksAreNotPlanned();
        stepsBehindTheirHalf();
        stagesInOrder();
        stagesOfLargeTrees();
        planBehindAPlan();
        largestPlan();
        noPlan();
        plannedOfAnotherWhat();
        plannedOfNoSuchFightNow();
        latestPlanThatToldAMinute();
        undoOfNone();
        undoOfAll();
        undoOfEachAct();
        undoOfActsThatNeedMore();
        undoOfALongDay();
        undoOfALargeDraw();
        undoLeaves();
        undoneAndDoneAgain();
        countOfAnotherWhat();
        countsOfAll();
        check.end();
    }

    private static void refused(String what, Check.Call call, int want) { check.refused(what, busy, call, want); }

    private static void at(String what, JudoHall x, int c, int i, int mat, int minute) {
        check.due(what + ": MAT of " + c + " " + i, x.planned(c, i, 0), mat);
        check.due(what + ": minute of " + c + " " + i, x.planned(c, i, 1), minute);
    }

    private static void drawMore(JudoHall x, int c, int many) {
        Check.fill(x, c, many);
        x.draw(c);
    }

    /** "Minutes 0 .. 1440 (0 at first)"; "RANGE: below the present one, or above 1440." */
    private static void minutesOfTheDay() {
        JudoHall x = new JudoHall();
        check.due("at first", x.count(1), 0);
        check.due("-1", x.now(-1), Check.RANGE);
        check.due("0", x.now(0), 0);
        check.due("1", x.now(1), 1);
        check.due("the present one", x.now(1), 1);
        check.due("below it", x.now(0), Check.RANGE);
        check.due("1441", x.now(1441), Check.RANGE);
        check.due("1440", x.now(1440), 1440);
        check.due("1440 again", x.now(1440), 1440);
        check.due("1439 now", x.now(1439), Check.RANGE);
        check.due("1441 still", x.now(1441), Check.RANGE);
        check.due("entries", x.count(7), 5);
        refused("29 of 30", y -> y.now(29), Check.RANGE);
        refused("above 1440", y -> y.now(1441), Check.RANGE);
        refused("greatest int", y -> y.now(MOST), Check.RANGE);
        refused("least int", y -> y.now(LEAST), Check.RANGE);
    }

    private static void minutesAndLog() {
        check.act("now", () -> new JudoHall(), x -> x.now(1440), 1440);
        check.aheadOfFull("now RANGE", () -> new JudoHall(), x -> x.now(1441), Check.RANGE);
        check.aheadOfFull("now RANGE below", () -> new JudoHall(), x -> x.now(-1), Check.RANGE);
    }

    /** "REST (10 at first)"; "n minutes, 0 .. 120: what it was. RANGE." */
    private static void minutesOfRest() {
        JudoHall x = new JudoHall();
        check.due("at first", x.count(2), 10);
        check.due("0", x.rest(0), 10);
        check.due("120", x.rest(120), 0);
        check.due("told", x.count(2), 120);
        check.due("1", x.rest(1), 120);
        refused("-1", y -> y.rest(-1), Check.RANGE);
        refused("121", y -> y.rest(121), Check.RANGE);
        refused("greatest int", y -> y.rest(MOST), Check.RANGE);
        refused("least int", y -> y.rest(LEAST), Check.RANGE);
    }

    private static void restAndLog() {
        check.act("rest", () -> new JudoHall(), x -> x.rest(10), 10);
        check.aheadOfFull("rest RANGE", () -> new JudoHall(), x -> x.rest(121), Check.RANGE);
    }

    /** "Each that is done is an entry of THE LOG, at most 500." */
    private static void fiveHundredEntries() {
        JudoHall x = new JudoHall();
        for (int k = 1; k < 500; k++) x.now(k);
        check.due("499", x.count(7), 499);
        check.due("the 500th", x.now(500), 500);
        check.due("500", x.count(7), 500);
        check.due("the 501st", x.now(501), Check.FULL);
        check.due("the minute stays", x.count(1), 500);
        check.due("undo", x.undo(), 499);
        check.due("the minute is that of the 499th", x.count(1), 499);
        check.due("the 500th again", x.now(777), 777);
        check.due("the 501st again", x.now(778), Check.FULL);
    }

    /** An ACT that finds all as it wants it is done, too: an entry, and an undo of its own. */
    private static void actsThatChangeNothing() {
        Check.Call[] acts = {x -> x.now(30), x -> x.rest(10), x -> x.seed(12, 0), x -> x.seed(10, 1), x -> x.weigh(10, 1500),
            x -> x.weigh(11, 999), x -> x.limit(3, 0, 200000)};
        int entries = Check.busy().count(7);
        for (int k = 0; k < acts.length; k++) {
            JudoHall x = Check.busy();
            check.due("act " + k + " is done", acts[k].on(x) >= 0 ? 1 : 0, 1);
            check.due("act " + k + " is an entry", x.count(7), entries + 1);
            check.due("undo of act " + k, x.undo(), entries);
            check.due("grams stay", x.fighter(10, 2), 1500);
            check.due("SEED stays", x.fighter(10, 4), 1);
            check.due("minute stays", x.count(1), 30);
        }
    }

    /** feed, end, plan, looks and undo are no ACTS: none is an entry, and none is FULL with a full LOG. */
    private static void callsThatAreNoActs() {
        JudoHall x = new JudoHall();
        Check.fillLog(x);
        check.due("feed", x.feed(1, 2, 3, 4, 5), 20);
        check.due("end", x.end(3), 3);
        check.due("plan", x.plan(1, 1), 0);
        check.due("fault", x.fault(0), 0);
        check.due("medal", x.medal(0, 0), Check.NONE);
        check.due("entries", x.count(7), 500);
        check.due("undo", x.undo(), 499);
    }

    /** "m MATS (1 .. 4), d minutes (1 .. 60)"; "RANGE: m, d". */
    private static void matsAndMinutesOfAPlan() {
        refused("0 MATS", x -> x.plan(0, 5), Check.RANGE);
        refused("5 MATS", x -> x.plan(5, 5), Check.RANGE);
        refused("-1 MATS", x -> x.plan(-1, 5), Check.RANGE);
        refused("0 minutes", x -> x.plan(1, 0), Check.RANGE);
        refused("61 minutes", x -> x.plan(1, 61), Check.RANGE);
        refused("-1 minutes", x -> x.plan(1, -1), Check.RANGE);
        refused("greatest ints", x -> x.plan(MOST, MOST), Check.RANGE);
        refused("least ints", x -> x.plan(LEAST, LEAST), Check.RANGE);
        for (int m = 1; m <= 4; m++) {
            for (int d : new int[] {1, 60}) {
                JudoHall x = new JudoHall();
                for (int c = 0; c < 4; c++) drawMore(x, c, 2);
                check.due(m + " MATS, " + d + " minutes", x.plan(m, d), (4 + m - 1) / m * d);
                for (int c = 0; c < 4; c++) at("four pairs", x, c, 0, c % m, c / m * d);
                check.due("no ACT", x.count(7), 20);
            }
        }
    }

    /** "The minute at which the last one ends (the present one, if there is none to plan)." */
    private static void nothingToPlan() {
        check.due("a new one", new JudoHall().plan(4, 60), 0);
        JudoHall x = Check.drawn(0, 2);
        x.now(1440);
        check.due("one to plan", x.plan(1, 1), 1441);
        Check.win(x, 0, 0, 0);
        check.due("all DONE", x.plan(1, 60), 1440);
        check.due("not planned", x.planned(0, 0, 0), Check.NONE);
        x.undo();
        check.due("OPEN", x.plan(1, 60), 1500);
    }

    /** "From the present minute on": of the last of the day, too. */
    private static void fromThePresentMinuteOn() {
        JudoHall x = Check.drawn(0, 3);
        check.due("from 0", x.plan(1, 5), 15);
        at("from 0", x, 0, 0, 0, 0);
        x.now(7);
        check.due("from 7", x.plan(1, 5), 22);
        at("from 7", x, 0, 0, 0, 7);
        x.now(1440);
        check.due("from 1440", x.plan(1, 60), 1620);
        at("from 1440", x, 0, 0, 0, 1440);
        at("from 1440", x, 0, 2, 0, 1560);
    }

    /** "On one that is free (none planned or OPEN there for that minute)": from the minute at which one ends. */
    private static void matThatIsFree() {
        for (int d : new int[] {1, 2, 60}) {
            JudoHall x = new JudoHall();
            drawMore(x, 0, 2);
            drawMore(x, 1, 2);
            check.due("two by one MAT", x.plan(1, d), 2 * d);
            at("first", x, 0, 0, 0, 0);
            at("second", x, 1, 0, 0, d);
        }
    }

    /** "MAT 0, 1, .. of those m by MAT." */
    private static void matsInOrder() {
        JudoHall x = Check.drawn(0, 8);
        x.plan(3, 2);
        for (int i = 0; i < 3; i++) at("round 0", x, 0, i, i, 0);
        // minute 2: FIGHT 3 is of the lower round, FIGHT 4 may as well, with REST 0; FIGHT 5 has FIGHT 3 ahead
        at("the fourth", x, 0, 3, 0, 2);
        at("behind the first two", x, 0, 4, 1, 2);
        at("behind the fourth", x, 0, 5, 0, 4);
    }

    /** "When REST minutes are over since the planned end of each FIGHT ahead of it." */
    private static void restBehindFightsAhead() {
        for (int rest : new int[] {0, 1, 120}) {
            JudoHall x = Check.drawn(0, 8);
            x.rest(rest);
            check.due("plan with REST " + rest, x.plan(4, 6), 3 * 6 + 2 * rest);
            at("round 1", x, 0, 4, 0, 6 + rest);
            at("round 1", x, 0, 5, 1, 6 + rest);
            at("step of 0", x, 0, 7, 0, 12 + 2 * rest);
            at("step of 1", x, 0, 8, 1, 12 + 2 * rest);
            at("FINAL", x, 0, 6, 2, 12 + 2 * rest);
        }
    }

    /** "Each of its FIGHTERS that is known RESTS no more": on both sides of the present minute. */
    private static void fightersWhoRest() {
        int[][] nowAndBegin = {{100, 110}, {109, 110}, {110, 110}, {111, 111}};
        for (int[] pair : nowAndBegin) {
            JudoHall x = Check.drawn(0, 3);
            x.rest(10);
            x.now(100);
            Check.win(x, 0, 0, 0);
            x.now(pair[0]);
            x.plan(1, 5);
            at("at " + pair[0], x, 0, 1, 0, pair[1]);
            at("at " + pair[0], x, 0, 2, 0, pair[1] + 15);
        }
        JudoHall y = Check.drawn(0, 7);
        y.rest(30);
        Check.win(y, 0, 1, 0);
        y.plan(4, 5);
        // FIGHT 4 is of the one with the BYE and the winner, who rests till 30; nothing planned is ahead of it
        at("a winner who rests", y, 0, 4, 0, 30);
    }

    /** "Since the planned end of each FIGHT already planned (OPEN, too) that has it as one that is known, REST minutes are over." */
    private static void fightersOfPlannedOnes() {
        for (int rest : new int[] {0, 7}) {
            JudoHall x = Check.drawn(0, 3);
            x.rest(rest);
            check.due("a POOL of 3 by four MATS", x.plan(4, 5), 15 + 2 * rest);
            at("01", x, 0, 0, 0, 0);
            at("12", x, 0, 1, 0, 5 + rest);
            at("02", x, 0, 2, 0, 10 + 2 * rest);
            x.begin(0, 1, 3);
            check.due("12 is OPEN", x.plan(4, 5), 15 + 2 * rest);
            at("12 OPEN", x, 0, 1, 3, 0);
            at("01 behind it", x, 0, 0, 0, 5 + rest);
            at("02 behind both", x, 0, 2, 0, 10 + 2 * rest);
        }
    }

    /** "OPEN ones have begun, on their MAT, and take d minutes from now." */
    private static void openOnesInAPlan() {
        JudoHall x = Check.drawn(0, 2);
        drawMore(x, 1, 2);
        drawMore(x, 2, 2);
        x.begin(0, 0, 1);
        x.now(40);
        check.due("by one MAT", x.plan(1, 5), 50);
        at("on a MAT that is none of the plan's", x, 0, 0, 1, 40);
        at("MAT 0 is free", x, 1, 0, 0, 40);
        at("MAT 0 again", x, 2, 0, 0, 45);
        check.due("by two MATS", x.plan(2, 5), 50);
        at("MAT 0", x, 1, 0, 0, 40);
        at("MAT 0 ahead of MAT 1", x, 2, 0, 0, 45);
        check.due("by three MATS", x.plan(3, 5), 45);
        at("MAT 2", x, 2, 0, 2, 40);
        x.now(60);
        at("of OPEN ones that of the plan", x, 0, 0, 1, 40);
        JudoHall y = Check.busy();
        check.due("one that waits is OPEN", y.plan(1, 2) > 30 ? y.planned(1, 1, 1) : 0, 30);
    }

    /** "Of all FIGHTS of drawn CLASSES that are neither DONE nor WALKS." */
    private static void doneAndWalksAreNotPlanned() {
        JudoHall x = Check.drawn(0, 6);
        Check.fill(x, 1, 3);
        Check.win(x, 0, 1, 0);
        check.due("six of nine", x.plan(1, 1), 6);
        int[] planned = {0, 0, 1, 0, 1, 1, 1, 1, 1};
        for (int i = 0; i < 9; i++) check.due("planned " + i, x.planned(0, i, 0) == 0 ? 1 : 0, planned[i]);
        check.due("not drawn", x.planned(1, 0, 0), Check.NONE);
        // FIGHT 4 won by the one with the BYE: its step is a WALK
        Check.win(x, 0, 4, 0);
        check.due("a WALK less", x.plan(1, 1), 4);
        at("a WALK", x, 0, 7, Check.NONE, Check.NONE);
    }

    /** "Of a step of second lives the FIGHT of the last round ahead of the FINAL of its half, and the step ahead." */
    private static void stepsBehindTheirHalf() {
        JudoHall x = Check.drawn(0, 16);
        for (int i = 0; i < 12; i++) Check.win(x, 0, i, 0);
        Check.win(x, 0, 13, 0);
        x.rest(3);
        x.now(10);
        // half 1 is over: its step 1 begins at once, half 0 has FIGHT 12 ahead of its own
        check.due("plan", x.plan(4, 5), 31);
        at("FIGHT 12", x, 0, 12, 0, 10);
        at("step 1 of 1", x, 0, 17, 1, 10);
        at("step 2 of 1", x, 0, 18, 1, 18);
        at("step 1 of 0", x, 0, 15, 0, 18);
        at("FINAL", x, 0, 14, 2, 18);
        at("step 2 of 0", x, 0, 16, 0, 26);
    }

    /** "By its STAGE, its CLASS, its number." */
    private static void stagesInOrder() {
        JudoHall x = new JudoHall();
        x.rest(0);
        drawMore(x, 3, 2);
        drawMore(x, 1, 8);
        drawMore(x, 0, 8);
        check.due("nineteen", x.plan(1, 1), 19);
        int[][] order = {{0, 0}, {0, 1}, {0, 2}, {0, 3}, {1, 0}, {1, 1}, {1, 2}, {1, 3}, {3, 0}, {0, 4}, {0, 5}, {1, 4}, {1, 5},
            {0, 7}, {0, 8}, {1, 7}, {1, 8}, {0, 6}, {1, 6}};
        for (int k = 0; k < order.length; k++) at("in order", x, order[k][0], order[k][1], 0, k);
    }

    /** "STAGE: of a TREE its round, of the FINAL 20, of second lives 10 and the step": each ahead of the other CLASS's next. */
    private static void stagesOfLargeTrees() {
        int[] sizes = {32, 16, 32};
        JudoHall x = new JudoHall();
        x.rest(0);
        for (int c = 0; c < 3; c++) drawMore(x, c, sizes[c]);
        check.due("all by one MAT", x.plan(1, 1), 37 + 19 + 37);
        int minute = 0;
        for (int stage = 0; stage <= 20; stage++) {
            for (int c = 0; c < 3; c++) {
                for (int i = 0; i < 37; i++) {
                    if (stageOf(sizes[c], i) == stage) {
                        check.due("minute of " + c + " " + i, x.planned(c, i, 1), minute);
                        minute++;
                    }
                }
            }
        }
        check.due("all were looked at", minute, 37 + 19 + 37);
    }

    private static int stageOf(int size, int i) {
        int steps = size == 16 ? 2 : 3;
        if (i == size - 2) return 20;
        if (i > size - 2) return i < size - 1 + 2 * steps ? 11 + (i - size + 1) % steps : -1;
        int round = 0;
        for (int first = size / 2; first <= i; first += size >> (round + 1)) round++;
        return round;
    }

    /** Nothing of the plan before is in the next one: FIGHT 1, whose FIGHTERS rest now, is still ahead of FIGHT 4. */
    private static void planBehindAPlan() {
        JudoHall x = Check.drawn(0, 8);
        x.rest(10);
        check.due("the plan before", x.plan(4, 1), 23);
        Check.win(x, 0, 0, 0);
        x.now(100);
        Check.win(x, 0, 1, 0);
        x.strike(0, 1);
        x.plan(1, 1);
        at("who don't rest", x, 0, 2, 0, 100);
        at("who don't rest", x, 0, 3, 0, 101);
        at("who rest", x, 0, 1, 0, 110);
        at("behind 2 and 3", x, 0, 5, 0, 112);
        at("behind 1 alone", x, 0, 4, 0, 121);
    }

    /** "NONE: it would be above 100000": the longest plan that 96 FIGHTERS can make is far below that. */
    private static void largestPlan() {
        JudoHall x = new JudoHall();
        x.rest(120);
        x.now(1440);
        for (int c = 0; c < 3; c++) drawMore(x, c, 32);
        int end = x.plan(1, 60);
        check.due("no sooner than one by one", end >= 1440 + 111 * 60 ? 1 : 0, 1);
        check.due("no later than each with its REST", end <= 1440 + 111 * 180 ? 1 : 0, 1);
        int latest = 0;
        for (int c = 0; c < 3; c++) {
            for (int i = 0; i < 37; i++) latest = Math.max(latest, x.planned(c, i, 1));
        }
        check.due("the last one's end", latest + 60, end);
    }

    /** "NONE: .. no plan." */
    private static void noPlan() {
        JudoHall x = Check.drawn(0, 2);
        check.due("MAT", x.planned(0, 0, 0), Check.NONE);
        check.due("minute", x.planned(0, 0, 1), Check.NONE);
        x.plan(0, 1);
        check.due("a refused one is none", x.planned(0, 0, 0), Check.NONE);
        x.plan(1, 1);
        check.due("a plan", x.planned(0, 0, 0), 0);
    }

    /** "NONE: not planned, no such FIGHT." */
    private static void plannedOfAnotherWhat() {
        JudoHall x = Check.busy();
        check.due("MAT", x.planned(0, 1, 0), 0);
        check.due("minute", x.planned(0, 1, 1), 30);
        for (int what : new int[] {-1, 2, LEAST, MOST}) check.due("what " + what, x.planned(0, 1, what), Check.NONE);
        for (int i : new int[] {-1, 6, 37, LEAST, MOST}) check.due("fight " + i, x.planned(0, i, 0), Check.NONE);
        for (int c : new int[] {-1, 2, 3, 4, LEAST, MOST}) check.due("class " + c, x.planned(c, 0, 0), Check.NONE);
        check.due("DONE", x.planned(0, 0, 0), Check.NONE);
        check.due("a WALK", x.planned(1, 0, 0), Check.NONE);
        check.due("the last one", x.planned(1, 8, 0) == Check.NONE ? 0 : 1, 1);
    }

    /** "No such FIGHT (now)": of a draw that was taken back, and of a smaller one that came then. */
    private static void plannedOfNoSuchFightNow() {
        JudoHall x = Check.drawn(0, 3);
        x.plan(1, 5);
        at("ahead", x, 0, 2, 0, 10);
        x.undo();
        for (int i = 0; i < 3; i++) at("taken back", x, 0, i, Check.NONE, Check.NONE);
        x.undo();
        x.draw(0);
        at("of two", x, 0, 0, 0, 0);
        at("no such one of two", x, 0, 1, Check.NONE, Check.NONE);
    }

    /** "Of the latest plan() that told a minute." */
    private static void latestPlanThatToldAMinute() {
        JudoHall x = Check.drawn(0, 3);
        x.plan(1, 5);
        x.plan(1, 61);
        x.plan(5, 1);
        at("a refused one changes nothing", x, 0, 2, 0, 10);
        Check.win(x, 0, 2, 0);
        at("a result changes nothing", x, 0, 2, 0, 10);
        x.plan(1, 6);
        at("the next one", x, 0, 1, 0, 6);
        at("DONE in the next one", x, 0, 2, Check.NONE, Check.NONE);
        Check.win(x, 0, 0, 0);
        Check.win(x, 0, 1, 0);
        check.due("one with none to plan", x.plan(1, 7), 0);
        at("tells a minute, too", x, 0, 1, Check.NONE, Check.NONE);
    }

    /** "NONE when it has none." */
    private static void undoOfNone() {
        check.refused("a new one", () -> new JudoHall(), x -> x.undo(), Check.NONE);
        JudoHall x = new JudoHall();
        x.now(1);
        check.due("of one", x.undo(), 0);
        check.due("of none", x.undo(), Check.NONE);
        check.due("of none again", x.undo(), Check.NONE);
        check.due("one again", x.now(1), 1);
        check.due("entries", x.count(7), 1);
    }

    /** "How many entries THE LOG has": back to a new object, but for THE TAPE, the FAULT and the plan. */
    private static void undoOfAll() {
        Check.Made undone = () -> {
            JudoHall x = Check.busy();
            x.end(0);
            for (int k = x.count(7) - 1; k >= 0; k--) check.due("undo to " + k, x.undo(), k);
            return x;
        };
        for (int part = 0; part < Sight.PARTS; part++) {
            JudoHall fresh = new JudoHall();
            Check.laws(fresh, "time 1; x");
            int[] before = Sight.of(fresh, part);
            int[] behind = Sight.of(undone.hall(), part);
            for (int k = 0; k < before.length; k++) check.due("look " + part + "." + k, behind[k], before[k]);
        }
    }

    /** "The latest ACT is taken back": all that can be asked is as it was ahead of it. */
    private static void takenBack(String what, Check.Made made, Check.Call act) {
        int entries = made.hall().count(7);
        Check.Call both = x -> {
            check.due(what + " is done", act.on(x) >= Check.NONE && x.count(7) == entries + 1 ? 1 : 0, 1);
            return x.undo();
        };
        check.refused("undo of " + what, made, both, entries);
    }

    private static void undoOfEachAct() {
        takenBack("limit", busy, x -> x.limit(3, 5, 6));
        takenBack("enter", busy, x -> x.enter(15, 3));
        takenBack("a first time at the scales", busy, x -> x.weigh(12, 1500));
        takenBack("one who was OUT at the scales", busy, x -> x.weigh(11, 1500));
        takenBack("one who was WEIGHED at the scales", busy, x -> x.weigh(10, 2001));
        takenBack("seed", busy, x -> x.seed(12, 8));
        takenBack("another seed", busy, x -> x.seed(10, 8));
        takenBack("no seed", busy, x -> x.seed(10, 0));
        takenBack("now", busy, x -> x.now(31));
        takenBack("rest", busy, x -> x.rest(120));
        takenBack("begin", busy, x -> x.begin(0, 5, 2));
        takenBack("an event", busy, x -> x.event(0, 0, 1));
        takenBack("an event that ends", busy, x -> x.event(0, 1, 0));
        takenBack("a tick", busy, x -> x.tick(0, 4));
        takenBack("a tick to golden time", busy, x -> x.tick(0, 5));
        takenBack("decide", busy, x -> x.decide(1, 0));
        takenBack("strike", busy, x -> x.strike(0, 0));
    }

    private static void undoOfActsThatNeedMore() {
        Check.Made twoWeighed = () -> {
            JudoHall x = Check.busy();
            x.weigh(12, 1500);
            return x;
        };
        takenBack("draw of a POOL", twoWeighed, x -> x.draw(2));
        Check.Made golden = () -> {
            JudoHall x = Check.busy();
            x.tick(0, 5);
            return x;
        };
        takenBack("a tick to the wait", golden, x -> x.tick(0, 3));
        takenBack("an event in golden time", golden, x -> x.event(0, 0, 0));
        Check.Made semis = () -> {
            JudoHall x = Check.drawn(1, 7);
            for (int i = 1; i < 6; i++) Check.win(x, 1, i, 0);
            x.begin(1, 6, 3);
            x.begin(1, 8, 0);
            x.tick(0, 9);
            x.now(77);
            return x;
        };
        takenBack("a strike that breaks off, with a WALK", semis, x -> x.strike(1, 1));
        takenBack("a strike that breaks off one that waits", semis, x -> x.strike(1, 5));
        Check.Made done = () -> {
            JudoHall x = Check.drawn(0, 8);
            for (int i = 0; i < 6; i++) Check.win(x, 0, i, 1);
            Check.put(x, "time 7;golden 7;sign x;sign y;win 3 when 1=1;win when over;");
            x.laws();
            x.feed(0x74696d65, 0x20313b67, 0x6f6c6465, 0x6e20323b, 0x20202020);
            return x;
        };
        // THE TAPE is read and stays so: it is fed once more, so that all is as ahead of the ACT
        takenBack("laws", done, x -> {
            int lines = x.laws();
            x.feed(0x74696d65, 0x20313b67, 0x6f6c6465, 0x6e20323b, 0x20202020);
            return lines;
        });
        Check.Made weighed = () -> {
            JudoHall x = new JudoHall();
            x.rest(3);
            Check.fill(x, 3, 9);
            return x;
        };
        takenBack("draw of a TREE", weighed, x -> x.draw(3));
    }

    /** Many ACTS that change much: a whole tree of 32, and back. */
    private static void undoOfALongDay() {
        JudoHall x = Check.drawn(0, 32);
        for (int i = 0; i < 37; i++) {
            x.begin(0, i, i % 4);
            x.event(i % 4, i % 2, 0);
        }
        check.due("all DONE", x.about(0, 5), 37);
        for (int k = 0; k < 74; k++) x.undo();
        for (int i = 0; i < 37; i++) check.due("state of " + i, x.fight(0, i, 3), i < 16 ? 1 : 0);
        for (int f = 0; f < 32; f++) check.due("end of " + f, x.fighter(f, 6), Check.NONE);
        for (int m = 0; m < 4; m++) check.due("mat " + m, x.mat(m, 0), Check.NONE);
        check.due("entries", x.count(7), 1 + 1 + 64 + 1);
        for (int k = 66; k >= 0; k--) check.due("undo to " + k, x.undo(), k);
        check.due("nobody", x.count(0), 0);
        check.due("no lines", x.count(4), 0);
        check.due("REST", x.count(2), 10);
        check.due("done again", x.enter(7, 3), 0);
        check.due("its club", x.fighter(0, 1), 7);
        check.due("its grams", x.fighter(0, 2), Check.NONE);
    }

    /** "(THE TAPE, the latest FAULT and plan stay.)" */
    private static void undoLeaves() {
        JudoHall x = Check.drawn(0, 3);
        x.plan(1, 5);
        Check.laws(x, "time 5;golden 5;win when over;");
        Check.put(x, "abc");
        x.undo();
        check.due("no bytes more", x.count(8), 3);
        check.due("no FAULT", x.fault(0), 0);
        Check.laws(x, "?");
        x.now(9);
        x.undo();
        check.due("the FAULT", x.fault(0), 1);
        check.due("its place", x.fault(1), 0);
        at("the plan", x, 0, 1, 0, 5);
    }

    /** What comes behind an undo is as if the ACT had never been. */
    private static void undoneAndDoneAgain() {
        JudoHall x = Check.drawn(0, 8);
        Check.win(x, 0, 0, 0);
        x.undo();
        x.event(0, 1, 0);
        check.due("the other one wins", x.fight(0, 0, 2), 7);
        check.due("is in round 1", x.fight(0, 4, 0), 7);
        x.undo();
        x.undo();
        check.due("another MAT", x.begin(0, 0, 3), 1);
        check.due("told", x.fight(0, 0, 6), 3);
        check.due("MAT 0 is free", x.mat(0, 0), Check.NONE);
    }

    /** "NONE for others." */
    private static void countOfAnotherWhat() {
        JudoHall x = Check.busy();
        for (int what : new int[] {-1, 9, 10, LEAST, MOST}) check.due("count(" + what + ")", x.count(what), Check.NONE);
    }

    private static void countsOfAll() {
        JudoHall x = Check.busy();
        int[] want = {13, 30, 10, 2, 2, 6, 2, 38, 20};
        for (int k = 0; k < want.length; k++) check.due("count(" + k + ")", x.count(k), want[k]);
    }

    /** A draw of 32 behind 128 other ACTS and some more is taken back whole. */
    private static void undoOfALargeDraw() {
        for (int more = 0; more < 4; more++) {
            int rests = more;
            Check.Made made = () -> {
                JudoHall x = new JudoHall();
                for (int k = 0; k < rests; k++) x.rest(k);
                for (int f = 0; f < 64; f++) x.weigh(x.enter(f % 16, f % 2), 5);
                return x;
            };
            Check.Call drawn = x -> {
                x.draw(0);
                return x.undo();
            };
            check.refused("a draw taken back behind " + rests, made, drawn, 128 + rests);
        }
    }
}
