/** What the tests by promise share: counting wrong answers, and texts on THE TAPE. */
final class Check {
    static final int NONE = -1, RANGE = -2, STATE = -3, FULL = -4, RESTS = -5;
    /** One sign ends a fight: good for tests that are not about laws. */
    static final String IPPON = "time 9; golden 0; sign ippon; win 10 when mine ippon > 0;";

    private int wrong;
    private final String name;

    Check(String name) { this.name = name; }

    void due(String what, int got, int want) {
        if (got != want) {
            wrong++;
            System.out.println(name + ": " + what + " answered " + got + ", due is " + want);
        }
    }

    void end() {
        System.out.println(name + (wrong == 0 ? ": all as due" : ": " + wrong + " wrong"));
        if (wrong != 0) System.exit(1);
    }

    static void put(JudoHall hall, String text) {
        hall.end(0);
        for (int from = 0; from < text.length(); from += 20) {
            int[] w = new int[5];
            for (int k = 0; k < 20; k++) {
                int b = from + k < text.length() ? text.charAt(from + k) & 255 : 0;
                w[k / 4] = (w[k / 4] << 8) | b;
            }
            hall.feed(w[0], w[1], w[2], w[3], w[4]);
        }
        hall.end(text.length());
    }

    static int laws(JudoHall hall, String text) {
        put(hall, text);
        return hall.laws();
    }

    /** A hall with IPPON laws, no REST, and a class of so many, one club each by turns, drawn. */
    static JudoHall drawn(int c, int many) {
        JudoHall hall = new JudoHall();
        laws(hall, IPPON);
        hall.rest(0);
        fill(hall, c, many);
        hall.draw(c);
        return hall;
    }

    static void fill(JudoHall hall, int c, int many) {
        for (int k = 0; k < many; k++) hall.weigh(hall.enter(k % 16, c), 1000);
    }

    /** A whole fight by IPPON on a mat; the answer of the event. */
    static int win(JudoHall hall, int c, int i, int side) {
        int begun = hall.begin(c, i, 0);
        return begun == 1 ? hall.event(0, side, 0) : begun;
    }

    /** Fills THE LOG up to its 500 entries. */
    static void fillLog(JudoHall hall) { fillLog(hall, 500); }

    /** Two looks alone: an object is good for 512 calls, and 500 of them are THE LOG's. */
    static void fillLog(JudoHall hall, int entries) {
        int minute = hall.count(1);
        for (int k = hall.count(7); k < entries; k++) hall.now(minute);
    }

    // ---- edges

    /** Makes the same hall as often as it is asked. */
    interface Made { JudoHall hall(); }

    interface Call { int on(JudoHall hall); }

    /** A refused call: its answer, and that all that can be asked of the hall is as it was without it. */
    void refused(String what, Made made, Call call, int want) {
        due(what, call.on(made.hall()), want);
        for (int part = 0; part < Sight.PARTS; part++) {
            JudoHall hall = made.hall();
            call.on(hall);
            int[] before = Sight.of(made.hall(), part);
            int[] behind = Sight.of(hall, part);
            for (int k = 0; k < before.length; k++) due(what + ", then look " + part + "." + k, behind[k], before[k]);
        }
    }

    /** An ACT at the edge of THE LOG: its 500th entry is made, its 501st is FULL, and made once there is room. */
    void act(String what, Made made, Call call, int want) {
        JudoHall x = made.hall();
        fillLog(x, 499);
        due(what + " as the 500th entry", call.on(x), want);
        due(what + " makes one entry", x.count(7), 500);
        JudoHall y = made.hall();
        fillLog(y, 500);
        due(what + " as the 501st entry", call.on(y), FULL);
        due(what + " makes no entry", y.count(7), 500);
        due("undo behind " + what, y.undo(), 499);
        due(what + " with room again", call.on(y), want);
    }

    /** A refusal of an ACT that comes ahead of FULL. */
    void aheadOfFull(String what, Made made, Call call, int want) {
        JudoHall x = made.hall();
        fillLog(x, 500);
        due(what + " ahead of FULL", call.on(x), want);
        due(what + " makes no entry", x.count(7), 500);
    }

    /** In the middle of a day: a bit of everything that a refused call could spoil. */
    static JudoHall busy() {
        JudoHall x = new JudoHall();
        laws(x, "time 5;golden 3;sign a;sign b;win 10 when mine a>0;win when yours b>2;");
        fill(x, 0, 4);
        fill(x, 1, 6);
        x.limit(2, 1000, 2000);
        x.weigh(x.enter(5, 2), 1500);
        x.weigh(x.enter(5, 2), 999);
        x.enter(6, 2);
        x.seed(10, 1);
        x.draw(0);
        x.draw(1);
        win(x, 0, 0, 0);
        laws(x, "time 1; x");
        x.now(30);
        x.begin(0, 1, 0);
        x.event(0, 1, 1);
        x.begin(1, 1, 1);
        x.tick(1, 5);
        x.tick(1, 3);
        x.plan(2, 5);
        x.feed(1, 2, 3, 4, 5);
        return x;
    }
}
