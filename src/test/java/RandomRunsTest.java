import java.util.ArrayList;
import java.util.List;
import java.util.Random;

/** Many runs of calls, the same ones each time, on the class and on the plain telling of the document. */
public final class RandomRunsTest {
    private static final int RUNS = 600;
    private static final int TEXTS = 6000;

    private final Random random;
    private final Both both = new Both();

    private RandomRunsTest(long number) { random = new Random(number); }

    public static void main(String[] args) {
        int runs = args.length > 0 ? Integer.parseInt(args[0]) : RUNS;
        long first = args.length > 1 ? Long.parseLong(args[1]) : 0;
        int wrong = 0;
        for (long n = first; n < first + runs && wrong < 3; n++) wrong += new RandomRunsTest(n).day(n) ? 0 : 1;
        for (long n = first; n < first + 10L * runs && n < first + TEXTS && wrong < 3; n += 20) {
            wrong += new RandomRunsTest(n).texts(n) ? 0 : 1;
        }
        for (int first96 = 0; first96 < 4 && wrong < 3; first96++) wrong += new RandomRunsTest(first96).fullHouse(first96) ? 0 : 1;
        for (int many = 2; many <= 32 && wrong < 3; many++) wrong += new RandomRunsTest(many).wholeClass(many) ? 0 : 1;
        System.out.println(wrong == 0 ? "random runs: all alike" : "random runs: " + wrong + " went apart");
        if (wrong != 0) System.exit(1);
    }

    private int in(int low, int high) { return low + random.nextInt(high - low + 1); }

    private boolean oneOf(int n) { return random.nextInt(n) == 0; }

    // ---- texts

    private boolean texts(long n) {
        for (int k = 0; k < 20 && !both.apart; k++) {
            String text = lawsText(in(0, 8), in(0, oneOf(10) ? 24 : 6), in(0, 4));
            for (int m = oneOf(3) ? 0 : in(0, 2); m > 0; m--) text = spoil(text);
            if (text.length() <= 3000) both.laws(text);
        }
        if (both.apart) System.out.println("texts " + n);
        return !both.apart;
    }

    private String blank() { return oneOf(5) ? "\n" : oneOf(6) ? "  " : " "; }

    private String lawsText(int signs, int lines, int deep) {
        StringBuilder s = new StringBuilder();
        s.append("time ").append(in(0, 6)).append(oneOf(2) ? ";" : " ; ");
        s.append("golden").append(blank()).append(oneOf(3) ? 0 : in(0, 5)).append(";");
        for (int k = 0; k < signs; k++) s.append(blank()).append("sign").append(blank()).append(name(k)).append(";");
        for (int k = 0; k < lines; k++) {
            s.append("win").append(oneOf(3) ? "" : " " + in(0, 12)).append(" when ").append(cond(signs, deep)).append(";");
        }
        return s.toString();
    }

    private static String name(int k) {
        String[] names = {"ippon", "wazari", "shido", "yuko", "a", "wi", "abcdefghij", "signs"};
        return names[k % names.length];
    }

    private String cond(int signs, int deep) {
        int pick = random.nextInt(deep > 0 ? 10 : 5);
        if (pick == 0) return "over";
        if (pick == 1) return oneOf(2) ? "extra" : "not extra";
        if (pick < 5) return sum(signs) + comp() + sum(signs);
        if (pick == 5) return "not" + blank() + cond(signs, deep - 1);
        if (pick == 6) return "(" + cond(signs, deep - 1) + ")";
        return cond(signs, deep - 1) + blank() + (oneOf(2) ? "or" : "and") + " " + cond(signs, deep - 1);
    }

    private String comp() {
        String[] comps = {"<", "<=", ">", ">=", "=", "!=", " > ", " >= "};
        return comps[random.nextInt(comps.length)];
    }

    private String sum(int signs) {
        StringBuilder s = new StringBuilder(term(signs));
        while (oneOf(3)) s.append(oneOf(2) ? "+" : " - ").append(term(signs));
        return s.toString();
    }

    private String term(int signs) {
        if (signs == 0 || oneOf(3)) return oneOf(2) ? "left" : "" + in(0, 4);
        return (oneOf(2) ? "mine" : "yours") + blank() + name(random.nextInt(signs));
    }

    /** A token or byte is taken out, doubled, or another put in its stead. */
    private String spoil(String text) {
        String[] others = {"time", "golden", "sign", "win", "when", "or", "and", "not", "over", "extra", "mine", "yours",
            "left", "(", ")", ";", "+", "-", "<", "<=", "!", "!=", "=", "1", "9999", "12345", "abcdefghijk", "ippon",
            "zzz", "A", "\t", "not not not not", "(((((", "\0", "" + (char) 200};
        int from = random.nextInt(text.length() + 1);
        int to = from;
        while (to < text.length() && Character.isLetterOrDigit(text.charAt(to))) to++;
        if (to == from && to < text.length()) to++;
        String token = text.substring(from, to);
        String other = others[random.nextInt(others.length)];
        switch (random.nextInt(5)) {
            case 0: return text.substring(0, from) + text.substring(to);
            case 1: return text.substring(0, to) + " " + token + text.substring(to);
            case 2: return text.substring(0, from) + " " + other + " " + text.substring(to);
            case 3: return text.substring(0, from) + " " + other + " " + text.substring(from);
            default: return text.substring(0, from);
        }
    }

    // ---- days

    private boolean day(long n) {
        setUp();
        int steps = in(20, 400);
        for (int k = 0; k < steps && !both.apart; k++) {
            step();
            if (oneOf(25)) both.lookAtAll();
        }
        both.lookAtAll();
        if (oneOf(3)) {
            while (!both.apart && both.undo() > 0) if (oneOf(40)) both.lookAtAll();
            both.lookAtAll();
        }
        if (both.apart) System.out.println("run " + n);
        return !both.apart;
    }

    /** All 96 fighters, in three or four classes, and all their fights; then all is taken back. */
    private boolean fullHouse(int without) {
        both.laws("time 3;golden 2;sign ippon;sign shido;win 10 when mine ippon > 0;win when yours shido >= 3;");
        both.rest(0);
        for (int k = 0; k < 96; k++) {
            int c = without == 0 ? k % 4 : k % 3 < without ? k % 3 : k % 3 + 1;
            both.weigh(both.enter(in(0, 15), c), in(900, 1000));
            if (oneOf(9)) both.seed(k, in(1, 8));
        }
        for (int c = 0; c < 4; c++) both.draw(c);
        both.plan(4, 5);
        both.lookAtAll();
        for (int k = 0; k < 100 && !inState(1).isEmpty() && !both.apart; k++) {
            for (int m = 0; m < 4; m++) beginSome();
            for (int turn = 0; turn < 9; turn++) fightOn(in(0, 3));
            if (k % 20 == 0) both.lookAtAll();
        }
        both.plan(1, 60);
        both.lookAtAll();
        while (!both.apart && both.undo() > 0) if (oneOf(100)) both.lookAtAll();
        both.lookAtAll();
        if (both.apart) System.out.println("full house " + without);
        return !both.apart;
    }

    /** A class of so many, fought to its end, with results struck on the way and all taken back. */
    private boolean wholeClass(int many) {
        int c = many % 4;
        both.laws(Check.IPPON);
        both.rest(in(0, 1));
        fill(c, many, in(1, 16));
        for (int f = 0; f < many; f++) both.weigh(f, in(500, 502));
        both.draw(c);
        for (int k = 0; k < 90 && !both.apart && !inState(1).isEmpty(); k++) {
            beginSome();
            for (int m = 0; m < 4; m++) both.event(m, in(0, 1), 0);
            both.now(k);
            if (oneOf(15)) strikeSome();
            if (oneOf(15)) both.plan(in(1, 4), in(1, 9));
            if (oneOf(6)) both.lookAtAll();
        }
        both.lookAtAll();
        int medals = Math.min(many, 4);
        for (int k = 0; k < medals; k++) both.apart |= both.medal(c, k) == Check.NONE;
        while (!both.apart && both.undo() > 0) if (oneOf(60)) both.lookAtAll();
        both.lookAtAll();
        if (both.apart) System.out.println("whole class of " + many);
        return !both.apart;
    }

    private void setUp() {
        takeLaws();
        if (oneOf(2)) both.rest(in(0, 3));
        int classes = in(1, 4);
        int clubs = in(1, 16);
        for (int c = 0; c < classes; c++) {
            int many = oneOf(3) ? in(2, 5) : oneOf(2) ? in(6, 10) : oneOf(2) ? in(9, 20) : in(17, 33);
            if (oneOf(3)) both.limit(c, 1000, 1020);
            fill(c, many, clubs);
            if (!oneOf(6)) both.draw(c);
        }
        both.lookAtAll();
    }

    private void fill(int c, int many, int clubs) {
        for (int k = 0; k < many; k++) {
            int f = both.enter(in(0, clubs - 1), c);
            if (f < 0) return;
            if (!oneOf(20)) both.weigh(f, in(995, oneOf(2) ? 1000 : 1022));
            if (oneOf(5)) both.seed(f, in(0, 8));
        }
    }

    private void takeLaws() {
        if (oneOf(3)) {
            both.laws(lawsText(in(1, 4), in(1, 4), 2));
        } else {
            both.laws("time " + in(0, 3) + ";golden " + in(0, 2) + ";sign ippon;sign shido;win 10 when mine ippon > 0;"
                + "win when yours shido >= 3;win 7 when over and mine shido < yours shido;");
        }
    }

    private void step() {
        int pick = random.nextInt(100);
        if (pick < 25) beginSome();
        else if (pick < 60) fightOn(in(0, 3));
        else if (pick < 75) both.now(Math.min(both.plain.day.minute + in(0, 12), oneOf(50) ? 1441 : 1440));
        else if (pick < 79) strikeSome();
        else if (pick < 84) undoSome();
        else if (pick < 90) both.plan(in(1, 4), oneOf(3) ? in(1, 60) : in(1, 6));
        else if (pick < 93) people();
        else if (pick < 94) both.rest(in(-1, oneOf(5) ? 121 : 5));
        else if (pick < 95) takeLaws();
        else wild();
    }

    private void beginSome() {
        List<int[]> ready = inState(1);
        if (ready.isEmpty()) {
            both.begin(in(0, 3), in(0, 36), in(0, 3));
            return;
        }
        int[] at = ready.get(random.nextInt(ready.size()));
        both.begin(at[0], at[1], in(0, 3));
    }

    private List<int[]> inState(int state) {
        List<int[]> found = new ArrayList<>();
        for (int c = 0; c < 4; c++) {
            for (int i = 0; i < both.plain.day.groups[c].bouts.length; i++) {
                if (both.plain.state(c, i) == state) found.add(new int[] {c, i});
            }
        }
        return found;
    }

    private void fightOn(int m) {
        if (both.plain.mat(m, 4) == 1) both.decide(m, in(0, 1));
        else if (oneOf(3)) both.tick(m, in(1, 3));
        else both.event(m, in(0, 1), oneOf(2) ? 0 : in(0, 2));
    }

    private void strikeSome() {
        List<int[]> done = inState(3);
        if (done.isEmpty()) {
            both.strike(in(0, 3), in(0, 36));
            return;
        }
        int[] at = done.get(random.nextInt(done.size()));
        both.strike(at[0], at[1]);
    }

    private void undoSome() {
        for (int k = oneOf(10) ? in(5, 40) : in(1, 3); k > 0; k--) both.undo();
    }

    private void people() {
        int f = in(0, Math.max(0, both.plain.day.people.size() - 1));
        switch (random.nextInt(5)) {
            case 0: both.enter(in(0, 15), in(0, 3)); break;
            case 1: both.weigh(f, in(990, 1030)); break;
            case 2: both.seed(f, in(0, 8)); break;
            case 3: both.limit(in(0, 3), in(0, 1000), in(900, 2000)); break;
            default: both.draw(in(0, 3)); break;
        }
    }

    private int any() {
        int[] some = {-1, 0, 1, 2, 3, 4, 5, 8, 9, 15, 16, 60, 61, 96, 120, 121, 200000, 200001, 9999, 10000,
            Integer.MIN_VALUE, Integer.MAX_VALUE, -2, 37, 1440};
        return some[random.nextInt(some.length)];
    }

    private void wild() {
        switch (random.nextInt(16)) {
            case 0: both.limit(any(), any(), any()); break;
            case 1: both.enter(any(), any()); break;
            case 2: both.weigh(any(), any()); break;
            case 3: both.seed(any(), any()); break;
            case 4: both.draw(any()); break;
            case 5: both.now(any()); break;
            case 6: both.rest(any()); break;
            case 7: both.begin(any(), any(), any()); break;
            case 8: both.event(any(), any(), any()); break;
            case 9: both.tick(any(), any()); break;
            case 10: both.decide(any(), any()); break;
            case 11: both.strike(any(), any()); break;
            case 12: both.medal(any(), any()); break;
            case 13: both.plan(any(), any()); break;
            case 14: both.end(any()); break;
            default: both.feed(random.nextInt(), any(), any(), any(), any()); break;
        }
    }
}
