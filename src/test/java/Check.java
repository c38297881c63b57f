/** Counts the answers that are not as due, prints each, and ends the test. */
final class Check {
    static final int LEAST_INT = Integer.MIN_VALUE;
    private int wrong = 0;
    private int calls = 0;

    void due(String call, long got, long want) {
        calls++;
        if (got != want) {
            wrong++;
            if (wrong <= 50) {
                System.out.println(call + " answered " + got + ", due is " + want);
            }
        }
    }

    void isTrue(String what, boolean holds) {
        due(what, holds ? 1 : 0, 1);
    }

    /** A refusal where the answer is a long. */
    static long refusal(int r) {
        return Long.MIN_VALUE - r;
    }

    /** THE WISH told by its numbers, least power first. */
    static void wish(LadderMaker x, int[] above, int[] below) {
        for (int power = 0; power <= 6; power++) {
            x.tell(0, power, power < above.length ? above[power] : 0);
            x.tell(1, power, power < below.length ? below[power] : 0);
        }
    }

    static int[] row(int... numbers) {
        return numbers;
    }

    void wishIs(String when, LadderMaker x, int[] above, int[] below) {
        for (int power = 0; power <= 6; power++) {
            due(when + ": told(0, " + power + ")", x.told(0, power), power < above.length ? above[power] : 0);
            due(when + ": told(1, " + power + ")", x.told(1, power), power < below.length ? below[power] : 0);
        }
    }

    void foldIs(String when, LadderMaker x, int[] above, int[] below) {
        for (int power = 0; power <= 6; power++) {
            due(when + ": fold(0, " + power + ")", x.fold(0, power), power < above.length ? above[power] : 0);
            due(when + ": fold(1, " + power + ")", x.fold(1, power), power < below.length ? below[power] : 0);
        }
    }

    /** All of element(), ARM behind ARM, and that there is no ARM more. */
    void ladderIs(String when, LadderMaker x, int... items) {
        due(when + ": count(0)", x.count(0), items.length / 5);
        for (int i = 0; i < items.length; i++) {
            due(when + ": element(" + i / 5 + ", " + i % 5 + ")", x.element(i / 5, i % 5), items[i]);
        }
        due(when + ": element behind the last", x.element(items.length / 5, 0), LadderMaker.BAD);
    }

    void end() {
        System.out.println(wrong == 0 ? calls + " answers are as due" : wrong + " of " + calls + " answers are not as due");
        if (wrong != 0) {
            System.exit(1);
        }
    }
}
