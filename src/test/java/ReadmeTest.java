import java.lang.reflect.Method;
import java.nio.file.Files;
import java.nio.file.Path;
import java.util.List;
import java.util.regex.Matcher;
import java.util.regex.Pattern;

/** Runs the day that README.md tells, line by line as it stands there: its calls answer what it says. */
public final class ReadmeTest {
    private static final Pattern TELL = Pattern.compile("tell\\(hall, \"([^\"]*)\"\\);");
    private static final Pattern CALL = Pattern.compile("hall\\.([a-z]+)\\(([-0-9, ]*)\\); +// -> (-?[0-9]+).*");
    private static final Check check = new Check("ReadmeTest");

    public static void main(String[] args) throws Exception {
        List<String> lines = Files.readAllLines(Path.of("README.md"));
        int first = lines.indexOf("JudoHall hall = new JudoHall();");
        check.due("a day begins", first >= 0 ? 1 : 0, 1);
        JudoHall hall = new JudoHall();
        int calls = 0;
        for (int k = first + 1; k < lines.size() && !lines.get(k).equals("```"); k++) {
            if (!lines.get(k).isEmpty()) calls += run(hall, lines.get(k));
        }
        check.due("a whole day", calls > 30 ? 1 : 0, 1);
        everyCallIsNamed(String.join("\n", lines));
        check.end();
    }

    private static int run(JudoHall hall, String line) throws Exception {
        Matcher tell = TELL.matcher(line);
        Matcher call = CALL.matcher(line);
        if (tell.matches()) {
            tell(hall, tell.group(1));
        } else if (call.matches()) {
            check.due(line, answer(hall, call.group(1), call.group(2)), Integer.parseInt(call.group(3)));
        } else {
            check.due("what is no call: " + line, 0, 1);
        }
        return 1;
    }

    private static int answer(JudoHall hall, String name, String numbers) throws Exception {
        String[] parts = numbers.isEmpty() ? new String[0] : numbers.split(", ");
        Class<?>[] types = new Class<?>[parts.length];
        Object[] values = new Object[parts.length];
        for (int k = 0; k < parts.length; k++) {
            types[k] = int.class;
            values[k] = Integer.valueOf(parts[k]);
        }
        return (Integer) JudoHall.class.getMethod(name, types).invoke(hall, values);
    }

    /** README.md's helper, as it stands there. */
    static void tell(JudoHall hall, String text) {
        hall.end(0);
        for (int from = 0; from < text.length(); from += 20) {
            int[] words = new int[5];
            for (int k = 0; k < 20; k++) {
                int b = from + k < text.length() ? text.charAt(from + k) : ' ';
                words[k / 4] = words[k / 4] << 8 | b;
            }
            hall.feed(words[0], words[1], words[2], words[3], words[4]);
        }
        hall.end(text.length());
    }

    private static void everyCallIsNamed(String readme) throws Exception {
        for (Method m : JudoHall.class.getMethods()) {
            boolean own = m.getDeclaringClass() == JudoHall.class;
            if (own) check.due("README.md names " + m.getName(), readme.contains("`" + m.getName() + "`") ? 1 : 0, 1);
        }
        String test = Files.readString(Path.of("src/test/java/ReadmeTest.java"));
        int from = readme.indexOf("static void tell");
        String helper = from < 0 ? "no helper" : readme.substring(from, readme.indexOf("\n```", from));
        check.due("the helper is this test's", test.replace("\n    ", "\n").contains(helper) ? 1 : 0, 1);
    }
}
