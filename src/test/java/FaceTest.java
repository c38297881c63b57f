import java.lang.reflect.Constructor;
import java.lang.reflect.Field;
import java.lang.reflect.Method;
import java.lang.reflect.Modifier;
import java.nio.file.Files;
import java.nio.file.Path;
import java.util.Arrays;
import java.util.TreeSet;

/** The public face of the document, and those rules of LANGUAGE.md that can be seen from outside or by a word. */
public final class FaceTest {
    private static final Check check = new Check();
    private static final String[] FACE = {
        "int tell(int, int, int)", "int told(int, int)", "int turn()", "int reverse()", "int read(int, int)", "int info(int)",
        "long reactance(int, int, int)", "int arm(int, int, int)", "int back()", "int unfold(int)", "int would(int)",
        "int element(int, int)", "long fold(int, int)", "int alike()", "int take()", "int bill(int, int)", "int values()",
        "int keep()", "int find()", "int kept(int, int)", "int recall(int)", "int sheet(int, int)", "int lose(int)",
        "int lay(int, int, int)", "long get(int, int)", "int copy(int, int, int, int, int)", "int write(int)", "int count(int)",
        "long digest()" };

    public static void main(String[] args) throws Exception {
        face();
        classesInside();
        source();
        check.end();
    }

    private static String told(Method m) {
        StringBuilder b = new StringBuilder(m.getReturnType().getName()).append(' ').append(m.getName()).append('(');
        for (Class<?> c : m.getParameterTypes()) b.append(b.charAt(b.length() - 1) == '(' ? "" : ", ").append(c.getName());
        return b.append(')').toString();
    }

    private static void face() {
        Class<?> c = LadderMaker.class;
        check.isTrue("public and final", Modifier.isPublic(c.getModifiers()) && Modifier.isFinal(c.getModifiers()));
        TreeSet<String> seen = new TreeSet<>();
        for (Method m : c.getDeclaredMethods()) {
            if (Modifier.isPublic(m.getModifiers())) seen.add(told(m));
            else check.isTrue("private: " + m, Modifier.isPrivate(m.getModifiers()));
        }
        check.isTrue("methods: " + seen, seen.equals(new TreeSet<>(Arrays.asList(FACE))));
        TreeSet<String> constants = new TreeSet<>();
        for (Field f : c.getDeclaredFields()) {
            if (Modifier.isPublic(f.getModifiers())) constants.add(f.getName());
            else check.isTrue("private: " + f, Modifier.isPrivate(f.getModifiers()));
            if (Modifier.isStatic(f.getModifiers())) check.isTrue("final: " + f, Modifier.isFinal(f.getModifiers()));
        }
        check.isTrue("constants: " + constants, constants.equals(new TreeSet<>(Arrays.asList("NONE", "BAD", "NOT", "FULL", "OVER", "DARK"))));
        Constructor<?>[] made = c.getDeclaredConstructors();
        check.isTrue("one public constructor", made.length == 1 && Modifier.isPublic(made[0].getModifiers()) && made[0].getParameterCount() == 0);
        int[] values = { LadderMaker.NONE, LadderMaker.BAD, LadderMaker.NOT, LadderMaker.FULL, LadderMaker.OVER, LadderMaker.DARK };
        for (int i = 0; i < 6; i++) check.due("constant " + i, values[i], -1 - i);
    }

    private static void classesInside() {
        TreeSet<String> names = new TreeSet<>();
        for (String f : FACE) names.add(f.substring(f.indexOf(' ') + 1, f.indexOf('(')));
        Class<?>[] all = LadderMaker.class.getDeclaredClasses();
        check.isTrue("twelve classes at most", all.length + 1 <= 12);
        for (Class<?> c : all) {
            check.isTrue("static: " + c, Modifier.isStatic(c.getModifiers()));
            check.isTrue("twenty fields at most: " + c, c.getDeclaredFields().length <= 20);
            for (Method m : c.getDeclaredMethods()) {
                check.isTrue("no name of a public one: " + m, !names.contains(m.getName()));
                check.isTrue("seven parameters at most: " + m, m.getParameterCount() <= 7);
            }
        }
        for (Method m : LadderMaker.class.getDeclaredMethods()) {
            check.isTrue("no name of a public one: " + m, Modifier.isPublic(m.getModifiers()) || !names.contains(m.getName()));
        }
    }

    private static void source() throws Exception {
        String text = Files.readString(Path.of("src/main/java/LadderMaker.java"));
        String code = text.replaceAll("(?s)/\\*.*?\\*/", " ").replaceAll("//[^\n]*", " ");
        String[] words = { "throw", "throws", "try", "catch", "finally", "synchronized", "assert", "import", "package", "volatile",
            "transient", "native", "protected", "double", "float", "String", "MIN_VALUE", "MAX_VALUE", "equals", "hashCode", "toString", "random" };
        for (String w : words) check.isTrue("without the word " + w, !code.matches("(?s).*\\b" + w + "\\b.*"));
        String[] signs = { "->", "::", "Exact", "static {", "@" };
        for (String s : signs) check.isTrue("without " + s, !code.contains(s));
        // rows are made with the object, so that no call makes anything
        for (String line : code.split("\n")) {
            if (line.matches(".*\\bnew\\b.*")) check.isTrue("made with the object: " + line.trim(), line.trim().startsWith("private "));
        }
        check.isTrue("ASCII alone", text.chars().allMatch(c -> c < 128));
    }
}
