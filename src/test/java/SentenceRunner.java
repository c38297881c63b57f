import java.lang.reflect.InvocationTargetException;
import java.lang.reflect.Method;
import java.util.Arrays;
import java.util.Comparator;

/** Runs every method that bears a Sentence, and has what these methods share. */
abstract class SentenceRunner {
    static final int LEAST_INT = Integer.MIN_VALUE;
    static final int[] ZERO = {};
    /** Numbers that are far outside of whatever the document allows. */
    static final int[] FAR = { Integer.MIN_VALUE, Integer.MIN_VALUE + 1, -1000, 1000, Integer.MAX_VALUE - 1, Integer.MAX_VALUE };

    private final Check check = new Check();
    private String title = "";

    static Method[] testsOf(Class<?> c) {
        return Arrays.stream(c.getDeclaredMethods())
            .filter(m -> m.isAnnotationPresent(Sentence.class))
            .sorted(Comparator.comparing(Method::getName))
            .toArray(Method[]::new);
    }

    final void runAll() throws IllegalAccessException {
        Method[] tests = testsOf(getClass());
        for (Method test : tests) {
            title = test.getName() + " (" + test.getAnnotation(Sentence.class).words() + ")";
            test.setAccessible(true);
            try {
                test.invoke(this);
            } catch (InvocationTargetException e) {
                isTrue("threw " + e.getCause(), false);
            }
        }
        System.out.println(tests.length + " sentences");
        check.end();
    }

    final void due(String call, long got, long want) {
        check.due(title + ": " + call, got, want);
    }

    final void isTrue(String what, boolean holds) {
        check.isTrue(title + ": " + what, holds);
    }

    /** A refusal where the answer is a long. */
    static long refusal(int r) {
        return Long.MIN_VALUE - r;
    }

    static int[] row(int... numbers) {
        return numbers;
    }

    static void tellWish(LadderMaker x, int[] above, int[] below) {
        for (int power = 0; power <= 6; power++) {
            x.tell(0, power, at(above, power));
            x.tell(1, power, at(below, power));
        }
    }

    static LadderMaker wish(int[] above, int[] below) {
        LadderMaker x = new LadderMaker();
        tellWish(x, above, below);
        return x;
    }

    /** ARMS told by place, coil, capacitor. */
    static LadderMaker ladder(int... arms) {
        LadderMaker x = new LadderMaker();
        for (int i = 0; i + 2 < arms.length; i += 3) {
            x.arm(arms[i], arms[i + 1], arms[i + 2]);
        }
        return x;
    }

    private static int at(int[] numbers, int power) {
        return power < numbers.length ? numbers[power] : 0;
    }

    final void wishIs(String when, LadderMaker x, int[] above, int[] below) {
        for (int power = 0; power <= 6; power++) {
            due(when + ": told(0, " + power + ")", x.told(0, power), at(above, power));
            due(when + ": told(1, " + power + ")", x.told(1, power), at(below, power));
        }
    }

    final void foldIs(String when, LadderMaker x, int[] above, int[] below) {
        for (int power = 0; power <= 6; power++) {
            due(when + ": fold(0, " + power + ")", x.fold(0, power), at(above, power));
            due(when + ": fold(1, " + power + ")", x.fold(1, power), at(below, power));
        }
    }

    final void keptIs(String when, LadderMaker x, int k, int[] above, int[] below) {
        for (int power = 0; power <= 6; power++) {
            due(when + ": kept(" + k + ", " + (1 + power) + ")", x.kept(k, 1 + power), at(above, power));
            due(when + ": kept(" + k + ", " + (8 + power) + ")", x.kept(k, 8 + power), at(below, power));
        }
    }

    /** All of element(), ARM behind ARM, and that there is no ARM more. */
    final void ladderIs(String when, LadderMaker x, int... items) {
        due(when + ": count(0)", x.count(0), items.length / 5);
        for (int i = 0; i < items.length; i++) {
            due(when + ": element(" + i / 5 + ", " + i % 5 + ")", x.element(i / 5, i % 5), items[i]);
        }
        due(when + ": element behind the last", x.element(items.length / 5, 0), LadderMaker.BAD);
    }

    /** All of bill(), PART behind PART, and that there is no PART more. */
    final void billIs(String when, LadderMaker x, int... items) {
        due(when + ": count(3)", x.count(3), items.length / 4);
        for (int i = 0; i < items.length; i++) {
            due(when + ": bill(" + i / 4 + ", " + i % 4 + ")", x.bill(i / 4, i % 4), items[i]);
        }
        due(when + ": bill behind the last", x.bill(items.length / 4, 0), LadderMaker.BAD);
    }

    /** All items of a SHEET, and that there is no item more. */
    final void sheetIs(String when, LadderMaker x, int s, long... items) {
        for (int i = 0; i < items.length; i++) {
            due(when + ": get(" + s + ", " + i + ")", x.get(s, i), items[i]);
        }
        due(when + ": get behind the last", x.get(s, items.length), refusal(-12));
    }
}
