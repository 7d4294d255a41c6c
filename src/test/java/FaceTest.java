import java.lang.reflect.Constructor;
import java.lang.reflect.Field;
import java.lang.reflect.Member;
import java.lang.reflect.Method;
import java.lang.reflect.Modifier;
import java.nio.file.Files;
import java.nio.file.Path;
import java.util.ArrayList;
import java.util.Arrays;
import java.util.Collections;
import java.util.List;
import java.util.regex.Matcher;
import java.util.regex.Pattern;

/** The public face, and those rules of LANGUAGE.md that can be seen in the class or its text. */
public final class FaceTest {
    private static final String FACE = "about2 begin3 count1 decide2 draw1 end1 enter2 event3 fault1 feed5 fight3 fighter2 "
        + "laws0 limit3 mat2 medal2 now1 plan2 planned3 rest1 seed2 strike2 tick2 undo0 weigh2";
    private static int wrong;

    public static void main(String[] args) throws Exception {
        methods();
        constants();
        hiddenMembers();
        ownClasses();
        text(new String(Files.readAllBytes(Path.of("src/main/java/JudoHall.java")), "ISO-8859-1"));
        System.out.println("FaceTest: " + (wrong == 0 ? "all as due" : wrong + " wrong"));
        if (wrong != 0) System.exit(1);
    }

    private static void due(boolean holds, String what) {
        if (!holds) {
            wrong++;
            System.out.println("FaceTest: " + what);
        }
    }

    private static void methods() {
        List<String> found = new ArrayList<>();
        for (Method m : JudoHall.class.getDeclaredMethods()) {
            if (!Modifier.isPublic(m.getModifiers())) continue;
            found.add(m.getName() + m.getParameterCount());
            due(m.getReturnType() == int.class && !Modifier.isStatic(m.getModifiers()), m + " is not of the face");
            for (Class<?> p : m.getParameterTypes()) due(p == int.class, m + " takes other than int");
        }
        Collections.sort(found);
        due(String.join(" ", found).equals(FACE), "the methods are " + found);
        due(Modifier.isFinal(JudoHall.class.getModifiers()), "the class is not final");
        Constructor<?>[] made = JudoHall.class.getDeclaredConstructors();
        due(made.length == 1 && Modifier.isPublic(made[0].getModifiers()) && made[0].getParameterCount() == 0, "the constructor");
    }

    private static void constants() throws Exception {
        String[] names = {"NONE", "RANGE", "STATE", "FULL", "RESTS"};
        for (int k = 0; k < names.length; k++) {
            due(JudoHall.class.getField(names[k]).getInt(null) == -1 - k, names[k]);
        }
        due(JudoHall.class.getFields().length == names.length, "other public fields");
    }

    private static void hiddenMembers() {
        List<Member> all = new ArrayList<>(Arrays.asList(JudoHall.class.getDeclaredMethods()));
        all.addAll(Arrays.asList(JudoHall.class.getDeclaredFields()));
        for (Member m : all) {
            boolean fine = Modifier.isPublic(m.getModifiers()) || Modifier.isPrivate(m.getModifiers());
            due(fine, m + " is neither public nor private");
        }
        for (Method m : JudoHall.class.getDeclaredMethods()) {
            boolean named = (" " + FACE).matches(".* " + m.getName() + "[0-9].*");
            due(Modifier.isPublic(m.getModifiers()) || !named, m + " bears a public name");
        }
    }

    private static void ownClasses() {
        Class<?>[] own = JudoHall.class.getDeclaredClasses();
        due(own.length <= 12, own.length + " classes inside");
        for (Class<?> c : own) {
            due(Modifier.isStatic(c.getModifiers()), c + " is not static");
            due(c.getDeclaredClasses().length == 0, c + " has classes inside");
            int fields = 0;
            for (Field f : c.getDeclaredFields()) {
                boolean fixed = Modifier.isStatic(f.getModifiers());
                fields += fixed ? 0 : 1;
                due(!fixed || Modifier.isFinal(f.getModifiers()), f + " is static and not final");
            }
            due(fields <= 20, c + " has " + fields + " fields");
            for (Method m : c.getDeclaredMethods()) due(m.getParameterCount() <= 7, m + " takes too many");
        }
    }

    private static void text(String whole) {
        for (int k = 0; k < whole.length(); k++) due(whole.charAt(k) < 127, "a sign that is not ASCII at " + k);
        String code = whole.replaceAll("(?s)/\\*.*?\\*/", "").replaceAll("//[^\n]*", "").replaceAll("\"[^\"\n]*\"", "\"\"");
        String[] none = {"throw", "throws", "try", "catch", "finally", "synchronized", "assert", "package", "volatile",
            "transient", "native", "strictfp", "->", "::", "System", "Object", "hashCode", "toString", "Exact", "var"};
        for (String word : none) {
            Matcher m = Pattern.compile(word.matches("[A-Za-z]+") ? "\\b" + word + "\\b" : Pattern.quote(word)).matcher(code);
            due(!m.find(), "the text has " + word);
        }
        Matcher imports = Pattern.compile("import ([^;]+);").matcher(code);
        while (imports.find()) due(imports.group(1).matches("java\\.util\\.(ArrayList|Arrays|List)"), "import " + imports.group(1));
        methodsAreShort(code.split("\n"));
    }

    private static void methodsAreShort(String[] lines) {
        int start = -1;
        for (int k = 0; k < lines.length; k++) {
            if (start < 0 && lines[k].matches("( {4}| {8})[A-Za-z].*\\) \\{")) start = k;
            if (start >= 0 && lines[k].matches("( {4}| {8})\\}")) {
                due(k - start <= 60, "a method of " + (k - start) + " lines: " + lines[start].trim());
                start = -1;
            }
        }
    }
}
