import java.util.ArrayList;
import java.util.List;

/** Gives each call to the class and to the plain telling of the document, and looks whether both answer alike. */
final class Both {
    final JudoHall hall = new JudoHall();
    final PlainHall plain = new PlainHall();
    final List<String> calls = new ArrayList<>();
    boolean apart;

    private int same(String call, int got, int due) {
        calls.add(call + " -> " + got);
        if (got != due && !apart) {
            apart = true;
            for (String c : calls) System.out.println("  " + c);
            System.out.println(call + " answered " + got + ", due is " + due);
        }
        return due;
    }

    /** Looks that change nothing are only kept in the list of calls when they are wrong. */
    private void look(String call, int got, int due) {
        if (got != due) same(call, got, due);
    }

    private static String call(String name, int... args) {
        StringBuilder s = new StringBuilder(name).append('(');
        for (int k = 0; k < args.length; k++) s.append(k == 0 ? "" : ", ").append(args[k]);
        return s.append(')').toString();
    }

    int feed(int a, int b, int c, int d, int e) {
        return same(call("feed", a, b, c, d, e), hall.feed(a, b, c, d, e), plain.feed(a, b, c, d, e));
    }

    int end(int n) { return same(call("end", n), hall.end(n), plain.end(n)); }

    int laws() {
        calls.add("tape: " + plain.tape);
        int due = same("laws()", hall.laws(), plain.laws());
        look("fault(0)", hall.fault(0), plain.fault(0));
        look("fault(1)", hall.fault(1), plain.fault(1));
        return due;
    }

    /** A whole text on an empty tape. */
    int laws(String text) {
        put(text);
        return laws();
    }

    void put(String text) {
        end(0);
        for (int from = 0; from < text.length(); from += 20) {
            int[] w = new int[5];
            for (int k = 0; k < 20; k++) {
                int b = from + k < text.length() ? text.charAt(from + k) & 255 : 0;
                w[k / 4] = (w[k / 4] << 8) | b;
            }
            feed(w[0], w[1], w[2], w[3], w[4]);
        }
        end(text.length());
    }

    int limit(int c, int low, int high) {
        return same(call("limit", c, low, high), hall.limit(c, low, high), plain.limit(c, low, high));
    }

    int enter(int club, int c) { return same(call("enter", club, c), hall.enter(club, c), plain.enter(club, c)); }

    int weigh(int f, int g) { return same(call("weigh", f, g), hall.weigh(f, g), plain.weigh(f, g)); }

    int seed(int f, int k) { return same(call("seed", f, k), hall.seed(f, k), plain.seed(f, k)); }

    int draw(int c) { return same(call("draw", c), hall.draw(c), plain.draw(c)); }

    int now(int m) { return same(call("now", m), hall.now(m), plain.now(m)); }

    int rest(int n) { return same(call("rest", n), hall.rest(n), plain.rest(n)); }

    int begin(int c, int i, int m) { return same(call("begin", c, i, m), hall.begin(c, i, m), plain.begin(c, i, m)); }

    int event(int m, int s, int k) { return same(call("event", m, s, k), hall.event(m, s, k), plain.event(m, s, k)); }

    int tick(int m, int s) { return same(call("tick", m, s), hall.tick(m, s), plain.tick(m, s)); }

    int decide(int m, int s) { return same(call("decide", m, s), hall.decide(m, s), plain.decide(m, s)); }

    int strike(int c, int i) { return same(call("strike", c, i), hall.strike(c, i), plain.strike(c, i)); }

    int plan(int m, int d) { return same(call("plan", m, d), hall.plan(m, d), plain.plan(m, d)); }

    int undo() { return same("undo()", hall.undo(), plain.undo()); }

    int medal(int c, int k) { return same(call("medal", c, k), hall.medal(c, k), plain.medal(c, k)); }

    /** Asks all there is to ask, and a little beyond. */
    void lookAtAll() {
        for (int w = -1; w <= 9; w++) look(call("count", w), hall.count(w), plain.count(w));
        for (int w = -1; w <= 2; w++) look(call("fault", w), hall.fault(w), plain.fault(w));
        for (int f = -1; f <= plain.day.people.size(); f++) {
            for (int w = -1; w <= 7; w++) look(call("fighter", f, w), hall.fighter(f, w), plain.fighter(f, w));
        }
        for (int m = -1; m <= 4; m++) {
            for (int w = -1; w <= 29; w++) look(call("mat", m, w), hall.mat(m, w), plain.mat(m, w));
        }
        for (int c = -1; c <= 4; c++) lookAtClass(c);
    }

    private void lookAtClass(int c) {
        for (int w = -1; w <= 8; w++) look(call("about", c, w), hall.about(c, w), plain.about(c, w));
        for (int w = 98; w <= 134; w++) look(call("about", c, w), hall.about(c, w), plain.about(c, w));
        for (int k = -1; k <= 6; k++) look(call("medal", c, k), hall.medal(c, k), plain.medal(c, k));
        for (int i = -1; i <= 38; i++) {
            for (int w = -1; w <= 8; w++) look(call("fight", c, i, w), hall.fight(c, i, w), plain.fight(c, i, w));
            for (int w = -1; w <= 2; w++) look(call("planned", c, i, w), hall.planned(c, i, w), plain.planned(c, i, w));
        }
    }
}
