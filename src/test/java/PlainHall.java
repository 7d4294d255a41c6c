import java.util.ArrayList;
import java.util.Comparator;
import java.util.List;

/**
 * The document told a second time, as slowly and plainly as can be: the whole state is copied for
 * each ACT, the plan goes minute by minute, the laws are trees of objects. RandomRunsTest holds the
 * class against it.
 */
final class PlainHall {
    static final int NONE = -1, RANGE = -2, STATE = -3, FULL = -4, RESTS = -5;

    // ---- the state that ACTS change

    static final class Person {
        int cls, club, grams = NONE, scales, seed, place = NONE, ended = NONE;

        Person copy() {
            Person p = new Person();
            p.cls = cls; p.club = club; p.grams = grams; p.scales = scales;
            p.seed = seed; p.place = place; p.ended = ended;
            return p;
        }
    }

    static final class Bout {
        int white, blue, mat, left, extra, waits, winner = NONE, line = NONE, points, end = NONE;
        boolean open = true;
        int[][] signs = new int[2][8];

        Bout copy() {
            Bout b = new Bout();
            b.white = white; b.blue = blue; b.mat = mat; b.left = left; b.extra = extra; b.waits = waits;
            b.winner = winner; b.line = line; b.points = points; b.end = end; b.open = open;
            b.signs = new int[][] {signs[0].clone(), signs[1].clone()};
            return b;
        }
    }

    static final class Group {
        int low, high = 200000, kind;
        int[] places = new int[0];
        Bout[] bouts = new Bout[0];

        Group copy() {
            Group g = new Group();
            g.low = low; g.high = high; g.kind = kind; g.places = places.clone();
            g.bouts = new Bout[bouts.length];
            for (int i = 0; i < bouts.length; i++) g.bouts[i] = bouts[i] == null ? null : bouts[i].copy();
            return g;
        }
    }

    static final class Day {
        int minute, rest = 10;
        Text laws = new Text();
        List<Person> people = new ArrayList<>();
        Group[] groups = {new Group(), new Group(), new Group(), new Group()};

        Day copy() {
            Day d = new Day();
            d.minute = minute; d.rest = rest; d.laws = laws;
            for (Person p : people) d.people.add(p.copy());
            for (int c = 0; c < 4; c++) d.groups[c] = groups[c].copy();
            return d;
        }
    }

    Day day = new Day();
    final List<Day> log = new ArrayList<>();
    final StringBuilder tape = new StringBuilder();
    int fault, place = NONE;
    int[][][] plan;

    private boolean full() { return log.size() >= 500; }

    private void act() { log.add(day.copy()); }

    int undo() {
        if (log.isEmpty()) return NONE;
        day = log.remove(log.size() - 1);
        return log.size();
    }

    // ---- laws

    interface Num { int of(View v); }

    interface Cond { boolean of(View v); }

    static final class View {
        Bout bout;
        int side;
        boolean over;
    }

    static final class Text {
        int time, golden, parts;
        List<String> signs = new ArrayList<>();
        List<Cond> lines = new ArrayList<>();
        List<Integer> points = new ArrayList<>();
    }

    static final class Fault extends RuntimeException {
        private static final long serialVersionUID = 1L;
        final int kind, at;

        Fault(int kind, int at) { this.kind = kind; this.at = at; }
    }

    static final class Telling {
        final String s;
        int next, from, open;
        String token;
        final Text text = new Text();
        static final List<String> KEYS = List.of("time", "golden", "sign", "win", "when", "or", "and", "not",
            "over", "extra", "mine", "yours", "left");
        static final List<String> COMPS = List.of("<", "<=", ">", ">=", "=", "!=");

        Telling(String s) { this.s = s; advance(); }

        /** The token at hand: "" at the end, "?" for what is none. */
        void advance() {
            while (next < s.length() && (s.charAt(next) == ' ' || s.charAt(next) == '\n')) next++;
            from = next;
            if (next == s.length()) { token = ""; return; }
            String rest = s.substring(next);
            String run = rest.replaceAll("(?s)^([a-z]+|[0-9]+|[<>!]=|[();+\\-<>=]|.).*$", "$1");
            next += run.length();
            boolean bad = run.matches("[a-z]{11,}|[0-9]{5,}") || !run.matches("[a-z]+|[0-9]+|[<>!]=|[();+\\-<>=]");
            token = bad ? "?" : run;
        }

        boolean number() { return token.matches("[0-9]+"); }

        boolean name() { return token.matches("[a-z]+") && !KEYS.contains(token); }

        Fault wrong(int kind) { return new Fault(kind, from); }

        void want(String t) { if (!token.equals(t)) throw wrong(1); advance(); }

        int wantNumber() {
            if (!number()) throw wrong(1);
            int n = Integer.parseInt(token);
            advance();
            return n;
        }

        Text all() {
            want("time");
            text.time = wantNumber();
            want(";");
            want("golden");
            text.golden = wantNumber();
            want(";");
            while (token.equals("sign")) sign();
            while (token.equals("win")) line();
            if (!token.isEmpty()) throw wrong(1);
            return text;
        }

        void sign() {
            if (text.signs.size() == 8) throw wrong(3);
            advance();
            if (!name()) throw wrong(1);
            if (text.signs.contains(token)) throw wrong(2);
            text.signs.add(token);
            advance();
            want(";");
        }

        void line() {
            if (text.lines.size() == 20) throw wrong(3);
            advance();
            int points = number() ? wantNumber() : 1;
            want("when");
            Cond cond = or();
            want(";");
            text.points.add(points);
            text.lines.add(cond);
        }

        void part() { if (text.parts == 300) throw wrong(3); text.parts++; }

        void opens() { if (open == 8) throw wrong(3); open++; }

        Cond or() {
            Cond a = and();
            while (token.equals("or")) {
                part();
                advance();
                Cond x = a, y = and();
                a = v -> x.of(v) || y.of(v);
            }
            return a;
        }

        Cond and() {
            Cond a = one();
            while (token.equals("and")) {
                part();
                advance();
                Cond x = a, y = one();
                a = v -> x.of(v) && y.of(v);
            }
            return a;
        }

        Cond one() {
            if (token.equals("not")) {
                part();
                opens();
                advance();
                Cond x = one();
                open--;
                return v -> !x.of(v);
            }
            if (token.equals("(")) {
                opens();
                advance();
                Cond x = or();
                want(")");
                open--;
                return x;
            }
            if (token.equals("over")) { part(); advance(); return v -> v.over; }
            if (token.equals("extra")) { part(); advance(); return v -> v.bout.extra == 1; }
            Num a = sum();
            String comp = token;
            if (!COMPS.contains(comp)) throw wrong(1);
            part();
            advance();
            Num b = sum();
            return v -> compare(comp, a.of(v), b.of(v));
        }

        static boolean compare(String comp, int a, int b) {
            switch (comp) {
                case "<": return a < b;
                case "<=": return a <= b;
                case ">": return a > b;
                case ">=": return a >= b;
                case "=": return a == b;
                default: return a != b;
            }
        }

        Num sum() {
            Num a = term();
            while (token.equals("+") || token.equals("-")) {
                boolean plus = token.equals("+");
                part();
                advance();
                Num x = a, y = term();
                a = v -> plus ? x.of(v) + y.of(v) : x.of(v) - y.of(v);
            }
            return a;
        }

        Num term() {
            if (token.equals("mine") || token.equals("yours")) {
                boolean mine = token.equals("mine");
                part();
                advance();
                if (!name()) throw wrong(1);
                int k = text.signs.indexOf(token);
                if (k < 0) throw wrong(2);
                advance();
                return v -> v.bout.signs[mine ? v.side : 1 - v.side][k];
            }
            if (token.equals("left")) { part(); advance(); return v -> v.bout.left; }
            if (!number()) throw wrong(1);
            part();
            int n = wantNumber();
            return v -> n;
        }
    }

    int feed(int... words) {
        if (tape.length() + 20 > 3000) return FULL;
        for (int w : words) for (int k = 3; k >= 0; k--) tape.append((char) ((w >>> (8 * k)) & 255));
        return tape.length();
    }

    int end(int n) {
        if (n < 0 || n > tape.length()) return NONE;
        tape.setLength(n);
        return n;
    }

    int laws() {
        String text = tape.toString();
        tape.setLength(0);
        if (count(6) > 0) return STATE;
        Text read;
        try {
            read = new Telling(text).all();
        } catch (Fault f) {
            fault = f.kind;
            place = f.at;
            return NONE;
        }
        fault = 0;
        place = NONE;
        if (full()) return FULL;
        act();
        day.laws = read;
        return read.lines.size();
    }

    int fault(int what) { return what == 0 ? fault : what == 1 ? place : NONE; }

    // ---- people

    private static boolean cls(int c) { return c >= 0 && c < 4; }

    private static boolean grams(int g) { return g >= 0 && g <= 200000; }

    private List<Integer> of(int c, boolean weighed) {
        List<Integer> found = new ArrayList<>();
        for (int f = 0; f < day.people.size(); f++) {
            Person p = day.people.get(f);
            if (p.cls == c && (!weighed || p.scales == 1)) found.add(f);
        }
        return found;
    }

    int limit(int c, int low, int high) {
        if (!cls(c) || !grams(low) || !grams(high) || low > high) return RANGE;
        if (day.groups[c].kind != 0) return STATE;
        for (int f : of(c, false)) if (day.people.get(f).scales != 0) return STATE;
        if (full()) return FULL;
        act();
        day.groups[c].low = low;
        day.groups[c].high = high;
        return 1;
    }

    int enter(int club, int c) {
        if (club < 0 || club > 15 || !cls(c)) return RANGE;
        if (day.groups[c].kind != 0) return STATE;
        if (day.people.size() == 96 || full()) return FULL;
        act();
        Person p = new Person();
        p.cls = c;
        p.club = club;
        day.people.add(p);
        return day.people.size() - 1;
    }

    private Person person(int f) { return f < 0 || f >= day.people.size() ? null : day.people.get(f); }

    int weigh(int f, int grams) {
        if (person(f) == null || !grams(grams)) return RANGE;
        if (day.groups[person(f).cls].kind != 0) return STATE;
        if (full()) return FULL;
        act();
        Person p = person(f);
        Group g = day.groups[p.cls];
        p.grams = grams;
        p.scales = g.low <= grams && grams <= g.high ? 1 : 2;
        return p.scales == 1 ? 1 : 0;
    }

    int seed(int f, int k) {
        if (person(f) == null || k < 0 || k > 8) return RANGE;
        if (day.groups[person(f).cls].kind != 0) return STATE;
        if (k > 0) for (int o : of(person(f).cls, false)) if (o != f && person(o).seed == k) return STATE;
        if (full()) return FULL;
        act();
        int was = person(f).seed;
        person(f).seed = k;
        return was;
    }

    static List<Integer> row(int size) {
        List<Integer> row = new ArrayList<>();
        if (size == 1) {
            row.add(0);
            return row;
        }
        List<Integer> half = row(size / 2);
        for (int p : half) row.add(p % 2 == 0 ? 2 * p : 2 * p + 1);
        for (int k = half.size() - 1; k >= 0; k--) {
            int p = half.get(k);
            row.add(row.contains(2 * p) ? 2 * p + 1 : 2 * p);
        }
        return row;
    }

    static int meet(int p, int q) {
        for (int r = 0; ; r++) {
            if (p / (1 << r) != q / (1 << r) && p / (2 << r) == q / (2 << r)) return r;
        }
    }

    int draw(int c) {
        if (!cls(c)) return RANGE;
        if (day.groups[c].kind != 0) return STATE;
        List<Integer> in = of(c, true);
        int n = in.size();
        if (n < 2 || n > 32) return NONE;
        if (full()) return FULL;
        act();
        Group g = day.groups[c];
        if (n <= 5) {
            g.kind = 1;
            g.places = new int[n];
            for (int k = 0; k < n; k++) g.places[k] = in.get(k);
            g.bouts = new Bout[n * (n - 1) / 2];
        } else {
            drawTree(c, g, in);
        }
        for (int p = 0; p < g.places.length; p++) if (g.places[p] != NONE) person(g.places[p]).place = p;
        return g.bouts.length;
    }

    private void drawTree(int c, Group g, List<Integer> in) {
        int n = in.size();
        int size = n <= 8 ? 8 : n <= 16 ? 16 : 32;
        g.kind = 2;
        g.places = new int[size];
        java.util.Arrays.fill(g.places, NONE);
        g.bouts = new Bout[size == 8 ? 7 + 2 : size == 16 ? 15 + 4 : 31 + 6];
        List<Integer> usable = new ArrayList<>(row(size).subList(0, n));
        List<Integer> seeds = new ArrayList<>();
        List<Integer> rest = new ArrayList<>();
        for (int f : in) (person(f).seed > 0 ? seeds : rest).add(f);
        seeds.sort(Comparator.comparingInt(f -> person(f).seed));
        for (int f : seeds) g.places[usable.remove(0)] = f;
        int[] most = new int[16];
        for (int f : rest) most[person(f).club]++;
        rest.sort(Comparator.<Integer>comparingInt(f -> -most[person(f).club])
            .thenComparingInt(f -> person(f).club).thenComparingInt(f -> f));
        for (int f : rest) {
            int best = NONE, latest = NONE;
            for (int p : usable) {
                int soonest = 1000;
                for (int q = 0; q < size; q++) {
                    if (g.places[q] != NONE && person(g.places[q]).club == person(f).club) {
                        soonest = Math.min(soonest, meet(p, q));
                    }
                }
                if (soonest > latest) {
                    latest = soonest;
                    best = p;
                }
            }
            usable.remove(Integer.valueOf(best));
            g.places[best] = f;
        }
    }

    int fighter(int f, int what) {
        Person p = person(f);
        if (p == null || what < 0 || what > 6) return NONE;
        return new int[] {p.cls, p.club, p.grams, p.scales, p.seed, p.place, p.ended}[what];
    }

    int about(int c, int what) {
        if (!cls(c)) return NONE;
        Group g = day.groups[c];
        if (what == 0) return of(c, false).size();
        if (what == 1) return of(c, true).size();
        if (what == 2) return g.kind;
        if (what == 3) return g.kind == 0 ? NONE : g.places.length;
        if (what == 4) return g.bouts.length;
        if (what == 5 || what == 6) {
            int found = 0;
            for (int i = 0; i < g.bouts.length; i++) if (state(c, i) == what - 2) found++;
            return found;
        }
        if (what >= 100 && what < 100 + g.places.length && g.kind == 2) return g.places[what - 100];
        return NONE;
    }

    // ---- fights

    private boolean fightIs(int c, int i) { return cls(c) && i >= 0 && i < day.groups[c].bouts.length; }

    private static int rounds(int size) { return size == 8 ? 3 : size == 16 ? 4 : 5; }

    /** Round and number in it; of second lives 100 + s and the step. */
    private int[] where(int c, int i) {
        int size = day.groups[c].places.length;
        int ahead = rounds(size) - 1;
        int n = i;
        for (int r = 0; r <= ahead; r++) {
            int many = size >> (r + 1);
            if (n < many) return new int[] {r, n};
            n -= many;
        }
        int steps = ahead - 1;
        return new int[] {100 + n / steps, n % steps + 1};
    }

    private int index(int c, int r, int j) {
        int size = day.groups[c].places.length;
        int i = j;
        for (int k = 0; k < r; k++) i += size >> (k + 1);
        return i;
    }

    private int lives(int c, int s, int step) {
        int size = day.groups[c].places.length;
        return size - 1 + s * (rounds(size) - 2) + step - 1;
    }

    private int finalist(int c, int s) {
        return winner(c, index(c, rounds(day.groups[c].places.length) - 2, s));
    }

    /** Who lost to the finalist in a round; none by a WALK. */
    private int lostTo(int c, int s, int r) {
        int f = finalist(c, s);
        if (f == NONE) return NONE;
        int i = index(c, r, person(f).place >> (r + 1));
        return side(c, i, 0) == f ? side(c, i, 1) : side(c, i, 0);
    }

    int side(int c, int i, int side) {
        Group g = day.groups[c];
        int n = g.places.length;
        if (g.kind == 1) {
            int at = 0;
            for (int gap = 1; gap < n; gap++) {
                for (int a = 0; a < n - gap; a++) if (at++ == i) return g.places[side == 0 ? a : a + gap];
            }
            return NONE;
        }
        int[] w = where(c, i);
        if (w[0] == 0) return g.places[2 * w[1] + side];
        if (w[0] < 100) return winner(c, index(c, w[0] - 1, 2 * w[1] + side));
        int s = w[0] - 100;
        if (side == 1) return lostTo(c, s, w[1]);
        return w[1] == 1 ? lostTo(c, s, 0) : winner(c, lives(c, s, w[1] - 1));
    }

    int state(int c, int i) {
        Group g = day.groups[c];
        if (g.bouts[i] != null) return g.bouts[i].open ? 2 : 3;
        boolean w = side(c, i, 0) != NONE, b = side(c, i, 1) != NONE;
        if (g.kind == 2) {
            int[] at = where(c, i);
            if (at[0] == 0 && w != b) return 4;
            if (at[0] >= 100 && at[1] == 1 && finalist(c, at[0] - 100) != NONE && !w && b) return 4;
        }
        return w && b ? 1 : 0;
    }

    int winner(int c, int i) {
        Bout b = day.groups[c].bouts[i];
        if (b != null) return b.winner;
        if (state(c, i) != 4) return NONE;
        return Math.max(side(c, i, 0), side(c, i, 1));
    }

    int fight(int c, int i, int what) {
        if (!fightIs(c, i)) return NONE;
        Bout b = day.groups[c].bouts[i];
        boolean done = b != null && !b.open;
        switch (what) {
            case 0: case 1: return side(c, i, what);
            case 2: return winner(c, i);
            case 3: return state(c, i);
            case 4: return done ? b.line : NONE;
            case 5: return done ? b.points : 0;
            case 6: return b != null && b.open ? b.mat : NONE;
            case 7: return done ? b.end : NONE;
            default: return NONE;
        }
    }

    int now(int m) {
        if (m < day.minute || m > 1440) return RANGE;
        if (full()) return FULL;
        act();
        return day.minute = m;
    }

    int rest(int n) {
        if (n < 0 || n > 120) return RANGE;
        if (full()) return FULL;
        act();
        int was = day.rest;
        day.rest = n;
        return was;
    }

    private int[] onMat(int m) {
        for (int c = 0; c < 4; c++) {
            for (int i = 0; i < day.groups[c].bouts.length; i++) {
                Bout b = day.groups[c].bouts[i];
                if (b != null && b.open && b.mat == m) return new int[] {c, i};
            }
        }
        return null;
    }

    private Bout bout(int m) {
        int[] at = onMat(m);
        return at == null ? null : day.groups[at[0]].bouts[at[1]];
    }

    private boolean held(int f) {
        for (int m = 0; m < 4; m++) if (bout(m) != null && (bout(m).white == f || bout(m).blue == f)) return true;
        return person(f).ended != NONE && day.minute - person(f).ended < day.rest;
    }

    int begin(int c, int i, int mat) {
        if (!fightIs(c, i) || mat < 0 || mat > 3) return RANGE;
        if (day.laws.lines.isEmpty() || state(c, i) != 1 || onMat(mat) != null) return STATE;
        if (held(side(c, i, 0)) || held(side(c, i, 1))) return RESTS;
        if (full()) return FULL;
        act();
        Bout b = new Bout();
        b.white = side(c, i, 0);
        b.blue = side(c, i, 1);
        b.mat = mat;
        if (day.laws.time > 0) {
            b.left = day.laws.time;
        } else if (day.laws.golden > 0) {
            b.extra = 1;
            b.left = day.laws.golden;
        } else {
            b.waits = 1;
        }
        day.groups[c].bouts[i] = b;
        return 1;
    }

    private void close(Bout b, int side, int line, int points) {
        b.open = false;
        b.winner = side == 0 ? b.white : b.blue;
        b.line = line;
        b.points = points;
        b.end = day.minute;
        person(b.white).ended = day.minute;
        person(b.blue).ended = day.minute;
    }

    private int ask(Bout b, boolean over) {
        for (int line = 0; line < day.laws.lines.size(); line++) {
            for (int side = 0; side < 2; side++) {
                View v = new View();
                v.bout = b;
                v.side = side;
                v.over = over;
                if (day.laws.lines.get(line).of(v)) {
                    close(b, side, line, day.laws.points.get(line));
                    return line;
                }
            }
        }
        return NONE;
    }

    int event(int mat, int side, int sign) {
        if (mat < 0 || mat > 3 || side < 0 || side > 1 || sign < 0 || sign >= day.laws.signs.size()) return RANGE;
        if (bout(mat) == null || bout(mat).waits == 1) return STATE;
        if (full()) return FULL;
        act();
        Bout b = bout(mat);
        if (b.signs[side][sign] < 99) b.signs[side][sign]++;
        return ask(b, b.extra == 1);
    }

    int tick(int mat, int seconds) {
        if (mat < 0 || mat > 3 || seconds < 1 || seconds > 9999) return RANGE;
        if (bout(mat) == null || bout(mat).waits == 1) return STATE;
        if (seconds > bout(mat).left) return RANGE;
        if (full()) return FULL;
        act();
        Bout b = bout(mat);
        b.left -= seconds;
        int line = ask(b, b.extra == 1 || b.left == 0);
        if (line != NONE || b.left > 0) return line;
        if (b.extra == 0 && day.laws.golden > 0) {
            b.extra = 1;
            b.left = day.laws.golden;
        } else {
            b.waits = 1;
        }
        return NONE;
    }

    int decide(int mat, int side) {
        if (mat < 0 || mat > 3 || side < 0 || side > 1) return RANGE;
        if (bout(mat) == null || bout(mat).waits == 0) return STATE;
        if (full()) return FULL;
        act();
        Bout b = bout(mat);
        close(b, side, NONE, 0);
        return b.winner;
    }

    int mat(int m, int what) {
        int[] at = onMat(m);
        if (at == null) return NONE;
        Bout b = bout(m);
        if (what >= 0 && what <= 4) return new int[] {at[0], at[1], b.left, b.extra, b.waits}[what];
        int signs = day.laws.signs.size();
        if (what >= 10 && what < 10 + signs) return b.signs[0][what - 10];
        if (what >= 20 && what < 20 + signs) return b.signs[1][what - 20];
        return NONE;
    }

    int strike(int c, int i) {
        if (!fightIs(c, i)) return RANGE;
        if (state(c, i) != 3) return STATE;
        if (full()) return FULL;
        act();
        Bout[] bouts = day.groups[c].bouts;
        bouts[i] = null;
        int gone = 1;
        for (boolean more = true; more; ) {
            more = false;
            for (int k = bouts.length - 1; k >= 0; k--) {
                Bout b = bouts[k];
                if (b != null && (side(c, k, 0) != b.white || side(c, k, 1) != b.blue)) {
                    if (b.open) {
                        person(b.white).ended = day.minute;
                        person(b.blue).ended = day.minute;
                    }
                    bouts[k] = null;
                    gone++;
                    more = true;
                }
            }
        }
        return gone;
    }

    int medal(int c, int k) {
        if (!cls(c) || k < 0) return NONE;
        Group g = day.groups[c];
        int n = g.places.length;
        if (g.kind == 2) {
            int last = n - 2;
            int steps = rounds(n) - 2;
            if (k == 0) return winner(c, last);
            if (k == 1) return winner(c, last) == NONE ? NONE : side(c, last, side(c, last, 0) == winner(c, last) ? 1 : 0);
            return k < 4 ? winner(c, lives(c, k - 2, steps)) : NONE;
        }
        if (g.kind == 0 || k >= n) return NONE;
        for (Bout b : g.bouts) if (b == null || b.open) return NONE;
        List<Integer> all = new ArrayList<>();
        for (int f : g.places) all.add(f);
        all.sort((a, b) -> ahead(g, a, b) ? -1 : 1);
        return all.get(k);
    }

    private int[] tally(Group g, int f) {
        int[] t = new int[2];
        for (Bout b : g.bouts) {
            if (b.winner == f) {
                t[0]++;
                t[1] += b.points;
            }
        }
        return t;
    }

    private boolean ahead(Group g, int a, int b) {
        int[] x = tally(g, a), y = tally(g, b);
        if (x[0] != y[0]) return x[0] > y[0];
        if (x[1] != y[1]) return x[1] > y[1];
        int alike = 0;
        for (int f : g.places) if (java.util.Arrays.equals(tally(g, f), x)) alike++;
        if (alike == 2) {
            for (Bout q : g.bouts) {
                if ((q.white == a && q.blue == b) || (q.white == b && q.blue == a)) return q.winner == a;
            }
        }
        if (person(a).grams != person(b).grams) return person(a).grams < person(b).grams;
        return a < b;
    }

    // ---- plan, log

    private int stage(int c, int i) {
        if (day.groups[c].kind == 1) return 0;
        int[] w = where(c, i);
        if (w[0] >= 100) return 10 + w[1];
        return i == day.groups[c].places.length - 2 ? 20 : w[0];
    }

    private List<Integer> aheadOf(int c, int i) {
        List<Integer> found = new ArrayList<>();
        if (day.groups[c].kind == 1) return found;
        int[] w = where(c, i);
        if (w[0] >= 100) {
            found.add(index(c, rounds(day.groups[c].places.length) - 2, w[0] - 100));
            if (w[1] > 1) found.add(i - 1);
        } else if (w[0] > 0) {
            found.add(index(c, w[0] - 1, 2 * w[1]));
            found.add(index(c, w[0] - 1, 2 * w[1] + 1));
        }
        found.removeIf(k -> state(c, k) >= 3);
        return found;
    }

    int plan(int m, int d) {
        if (m < 1 || m > 4 || d < 1 || d > 60) return RANGE;
        int[][][] made = new int[4][37][];
        List<int[]> todo = new ArrayList<>();
        int last = day.minute;
        for (int c = 0; c < 4; c++) {
            for (int i = 0; i < day.groups[c].bouts.length; i++) {
                int s = state(c, i);
                if (s == 2) {
                    made[c][i] = new int[] {day.groups[c].bouts[i].mat, day.minute, day.minute + d};
                    last = day.minute + d;
                } else if (s < 2) {
                    todo.add(new int[] {stage(c, i), c, i});
                }
            }
        }
        todo.sort(Comparator.<int[]>comparingInt(t -> t[0]).thenComparingInt(t -> t[1]).thenComparingInt(t -> t[2]));
        for (int minute = day.minute; !todo.isEmpty(); minute++) {
            for (int mat = 0; mat < m; mat++) {
                if (!free(made, mat, minute)) continue;
                for (int[] t : todo) {
                    if (may(made, t[1], t[2], minute)) {
                        made[t[1]][t[2]] = new int[] {mat, minute, minute + d};
                        last = Math.max(last, minute + d);
                        todo.remove(t);
                        break;
                    }
                }
            }
        }
        if (last > 100000) return NONE;
        plan = made;
        return last;
    }

    private static boolean free(int[][][] made, int mat, int minute) {
        for (int[][] row : made) {
            for (int[] p : row) if (p != null && p[0] == mat && p[1] <= minute && minute < p[2]) return false;
        }
        return true;
    }

    private boolean may(int[][][] made, int c, int i, int minute) {
        for (int a : aheadOf(c, i)) if (made[c][a] == null || minute - made[c][a][2] < day.rest) return false;
        for (int side = 0; side < 2; side++) {
            int f = side(c, i, side);
            if (f == NONE) continue;
            if (person(f).ended != NONE && minute - person(f).ended < day.rest) return false;
            for (int k = 0; k < day.groups[c].bouts.length; k++) {
                if (made[c][k] == null || (side(c, k, 0) != f && side(c, k, 1) != f)) continue;
                if (minute - made[c][k][2] < day.rest) return false;
            }
        }
        return true;
    }

    int planned(int c, int i, int what) {
        if (!fightIs(c, i) || plan == null || plan[c][i] == null || what < 0 || what > 1) return NONE;
        return plan[c][i][what];
    }

    int count(int what) {
        int open = 0;
        for (int m = 0; m < 4; m++) if (onMat(m) != null) open++;
        int[] all = {day.people.size(), day.minute, day.rest, day.laws.signs.size(), day.laws.lines.size(),
            day.laws.parts, open, log.size(), tape.length()};
        return what >= 0 && what < all.length ? all[what] : NONE;
    }
}
