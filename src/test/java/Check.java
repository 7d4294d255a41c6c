/** What the tests by promise share: counting wrong answers, and texts on THE TAPE. */
final class Check {
    static final int NONE = -1, RANGE = -2, STATE = -3, FULL = -4, RESTS = -5;
    /** One sign ends a fight: good for tests that are not about laws. */
    static final String IPPON = "time 9; golden 0; sign ippon; win 10 when mine ippon > 0;";

    private int wrong;
    private final String name;

    Check(String name) { this.name = name; }

    void due(String what, int got, int want) {
        if (got != want) {
            wrong++;
            System.out.println(name + ": " + what + " answered " + got + ", due is " + want);
        }
    }

    void end() {
        System.out.println(name + (wrong == 0 ? ": all as due" : ": " + wrong + " wrong"));
        if (wrong != 0) System.exit(1);
    }

    static void put(JudoHall hall, String text) {
        hall.end(0);
        for (int from = 0; from < text.length(); from += 20) {
            int[] w = new int[5];
            for (int k = 0; k < 20; k++) {
                int b = from + k < text.length() ? text.charAt(from + k) & 255 : 0;
                w[k / 4] = (w[k / 4] << 8) | b;
            }
            hall.feed(w[0], w[1], w[2], w[3], w[4]);
        }
        hall.end(text.length());
    }

    static int laws(JudoHall hall, String text) {
        put(hall, text);
        return hall.laws();
    }

    /** A hall with IPPON laws, no REST, and a class of so many, one club each by turns, drawn. */
    static JudoHall drawn(int c, int many) {
        JudoHall hall = new JudoHall();
        laws(hall, IPPON);
        hall.rest(0);
        fill(hall, c, many);
        hall.draw(c);
        return hall;
    }

    static void fill(JudoHall hall, int c, int many) {
        for (int k = 0; k < many; k++) hall.weigh(hall.enter(k % 16, c), 1000);
    }

    /** A whole fight by IPPON on a mat; the answer of the event. */
    static int win(JudoHall hall, int c, int i, int side) {
        int begun = hall.begin(c, i, 0);
        return begun == 1 ? hall.event(0, side, 0) : begun;
    }

    /** Fills THE LOG up to its 500 entries. */
    static void fillLog(JudoHall hall) {
        for (int k = 0; k < 500 && hall.count(7) < 500; k++) hall.now(hall.count(1));
    }
}
