import java.lang.management.ManagementFactory;
import java.util.ArrayList;
import java.util.HashMap;
import java.util.HashSet;
import java.util.List;
import java.util.Map;
import java.util.Set;

/** Those rules of LANGUAGE.md that the compiled class tells of, and the room that a run takes. */
public final class LanguageTest {
    /** Rule 4, of what it lists: what the class uses. Another member is put here only when the rule has it. */
    private static final Set<String> LIBRARY = Set.of("java/lang/Object.<init>", "java/lang/Math.max", "java/lang/Math.min",
        "java/util/Arrays.fill", "java/util/Arrays.copyOf", "java/util/ArrayList.<init>", "java/util/ArrayList.add",
        "java/util/ArrayList.get", "java/util/ArrayList.set", "java/util/ArrayList.size", "java/lang/String.length",
        "java/lang/String.charAt");
    /** Methods that look at each index, or at the list's size, on the lines on which they use it. */
    private static final Set<String> INDEXING = Set.of("JudoHall$Row.get", "JudoHall$Row.set", "JudoHall$Book.at",
        "JudoHall$Book.lay", "JudoHall$Parser.takeHead", "JudoHall$Parser.<clinit>", "JudoHall.keepLaws", "JudoHall.lawsNow");
    private static final int DEEPEST = 8;
    private static final long MOST_BYTES = 4_000_000;
    private static int wrong;

    private final Map<String, List<String>> calls = new HashMap<>();
    private final Map<String, Integer> depths = new HashMap<>();
    private final Set<String> open = new HashSet<>();

    public static void main(String[] args) throws Exception {
        LanguageTest test = new LanguageTest();
        List<Class<?>> all = new ArrayList<>(List.of(JudoHall.class.getDeclaredClasses()));
        all.add(JudoHall.class);
        due(all.size() <= 12, all.size() + " classes");
        for (Class<?> c : all) {
            for (ClassFile.Body body : new ClassFile(c).bodies) test.lookAt(body);
        }
        for (String method : test.calls.keySet()) due(test.depth(method) <= DEEPEST, method + " goes " + test.depth(method) + " deep");
        due(test.depths.size() > 200, "only " + test.depths.size() + " methods were looked at");
        roomOfARun();
        System.out.println("LanguageTest: " + (wrong == 0 ? "all as due" : wrong + " wrong"));
        if (wrong != 0) System.exit(1);
    }

    private static void due(boolean holds, String what) {
        if (!holds) {
            wrong++;
            System.out.println("LanguageTest: " + what);
        }
    }

    private void lookAt(ClassFile.Body body) {
        // rule 6: no try
        due(body.catches == 0, body.name + " catches");
        List<String> called = calls.computeIfAbsent(body.name, name -> new ArrayList<>());
        int before = 0;
        for (ClassFile.Step step : body.steps) {
            lookAtStep(body.name, step, before);
            boolean call = step.code >= 0xb6 && step.code <= 0xb9;
            if (call && step.names.startsWith("java/")) due(LIBRARY.contains(step.names), body.name + " calls " + step.names);
            if (call && !step.names.startsWith("java/")) called.add(step.names);
            before = step.code;
        }
    }

    private static void lookAtStep(String method, ClassFile.Step step, int before) {
        int code = step.code;
        // rules 2, 6 and 10: no throw, synchronized, lambda, method reference or text joined by +
        due(code != 0xbf && code != 0xc2 && code != 0xc3 && code != 0xba, method + " has a step " + code);
        // more than rule 3 asks: this class needs no arrays but rows of numbers
        due(code != 0xc5 && code != 0xbd, method + " makes an array that is no row of numbers");
        // rule 7: an index, a list's size, a divisor, a cast, a length are looked at ahead
        boolean indexed = code >= 0x2e && code <= 0x35 || code >= 0x4f && code <= 0x56
            || step.names.equals("java/util/ArrayList.get") || step.names.equals("java/util/ArrayList.set");
        due(!indexed || INDEXING.contains(method), method + " takes an element itself");
        boolean divides = code == 0x6c || code == 0x6d || code == 0x70 || code == 0x71;
        boolean fixed = before >= 0x04 && before <= 0x08 || before == 0x10 || before == 0x11 || before == 0x12;
        due(!divides || fixed, method + " divides by what may be 0");
        due(code != 0xc0 || step.names.equals("JudoHall$Laws"), method + " casts to " + step.names);
        due(code != 0xbc || method.endsWith("init>"), method + " makes an array outside a constructor");
    }

    /** How many calls stand open at once at most, the method's own with them. */
    private int depth(String method) {
        if (depths.containsKey(method)) return depths.get(method);
        due(open.add(method), method + " calls itself");
        int deepest = 0;
        for (String next : calls.getOrDefault(method, List.of())) {
            if (!open.contains(next)) deepest = Math.max(deepest, depth(next));
            else due(false, method + " and " + next + " call one another");
        }
        open.remove(method);
        depths.put(method, deepest + 1);
        return deepest + 1;
    }

    /** Runs of up to 512 calls that make the most: laws, ACTS that change much, plans. The room has 7.3 million elements. */
    private static void roomOfARun() {
        long told = bytesOf(() -> {
            JudoHall x = new JudoHall();
            for (int k = 0; k < 256; k++) {
                x.feed(0x74696d65, 0x20313b67, 0x6f6c6465, 0x6e20323b, 0x20202020);
                x.laws();
            }
        });
        due(told < MOST_BYTES, "laws take " + told + " bytes");
        long fought = bytesOf(() -> {
            JudoHall x = Check.drawn(0, 32);
            for (int k = 0; k < 36; k++) {
                for (int i = 0; i < 4; i++) x.begin(0, i, i);
                for (int i = 0; i < 4; i++) x.event(i, 0, 0);
                for (int i = 0; i < 4; i++) x.strike(0, i);
            }
        });
        due(fought < MOST_BYTES, "fights take " + fought + " bytes");
        long planned = bytesOf(() -> {
            JudoHall x = Check.drawn(0, 32);
            for (int k = 0; k < 400; k++) x.plan(4, 5);
        });
        due(planned < MOST_BYTES, "plans take " + planned + " bytes");
    }

    private static long bytesOf(Runnable run) {
        com.sun.management.ThreadMXBean all = (com.sun.management.ThreadMXBean) ManagementFactory.getThreadMXBean();
        long before = all.getCurrentThreadAllocatedBytes();
        run.run();
        return all.getCurrentThreadAllocatedBytes() - before;
    }
}
