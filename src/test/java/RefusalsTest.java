import java.util.ArrayList;
import java.util.List;

/** FINDINGS and other refusals: what they answer, which comes first, and that they change nothing. */
public final class RefusalsTest extends SentenceRunner {
    private interface Call {
        long go(LadderMaker x);
    }

    public static void main(String[] args) throws Exception {
        new RefusalsTest().runAll();
    }

    /**
     * An object with something of everything: THE WISH is DARK by way 3, and has no REACTANCE at 1;
     * what is FOLDED is OVER; SHEET 0 has 16 items, of which the last is no number of a wish, SHEET 1
     * has 3, SHEET 2 is LOST.
     */
    private static LadderMaker busy() {
        LadderMaker x = ladder(0, 9, 8, 1, 7, 6, 0, 5, 0);
        for (int k = 1; k <= 3; k++) {
            tellWish(x, row(k), row(0, 1));
            x.keep();
        }
        tellWish(x, row(1, 0, 3, 0, 1), row(0, 1, 0, 1));
        x.sheet(0, 16);
        for (int i = 0; i < 16; i++) x.lay(0, i, i - 5);
        x.sheet(1, 3);
        return x;
    }

    /** THE WISH is 0 by 0, and there are no ARMS. */
    private static LadderMaker bare() {
        LadderMaker x = new LadderMaker();
        x.sheet(0, 16);
        x.sheet(1, 3);
        return x;
    }

    /** All that can be seen but count(8), asked so that nothing is refused. */
    private static List<Long> seen(LadderMaker x) {
        List<Long> all = new ArrayList<>();
        all.add(x.digest());
        for (int what = 0; what <= 7; what++) all.add((long) x.count(what));
        for (int power = 0; power <= 6; power++) {
            all.add((long) x.told(0, power));
            all.add((long) x.told(1, power));
        }
        for (int i = 0; i < 16; i++) all.add(x.get(0, i));
        for (int i = 0; i < 3; i++) all.add(x.get(1, i));
        return all;
    }

    private void refused(String what, LadderMaker x, Call call, long answer, int finding) {
        List<Long> before = seen(x);
        due(what, call.go(x), answer);
        due(what + ": count(8)", x.count(8), finding);
        isTrue(what + ": nothing changed", seen(x).equals(before));
    }

    private void refused(String what, Call call, long answer) {
        refused(what, busy(), call, answer, 0);
    }

    private void finding(String what, Call call, int number) {
        refused(what, busy(), call, -10 - number, number);
    }

    // ---- findings

    @Sentence(words = "FINDINGS (answers -10 less the number; they change nothing but count() 8)")
    void findings_changeNothingButCount8() {
        finding("read NULL", x -> x.read(2, 0), 1);
        finding("lose NULL", x -> x.lose(2), 1);
        finding("lay NULL", x -> x.lay(2, 0, 1), 1);
        finding("copy NULL", x -> x.copy(0, 0, 2, 0, 1), 1);
        finding("write NULL", x -> x.write(2), 1);
        finding("read INDEX", x -> x.read(0, 3), 2);
        finding("lay INDEX", x -> x.lay(0, 16, 1), 2);
        finding("copy INDEX", x -> x.copy(0, 0, 1, 0, 4), 2);
        finding("sheet SIZE", x -> x.sheet(0, -1), 3);
        finding("sheet SIZE, LOST", x -> x.sheet(2, -1), 3);
    }

    @Sentence(words = "1 NULL: the SHEET is LOST")
    void findings_null() {
        LadderMaker x = new LadderMaker();
        for (int s = 0; s <= 2; s++) {
            due("lose(" + s + ")", x.lose(s), -11);
            due("count(8)", x.count(8), 1);
            x.sheet(s, 0);
            due("a row of no items is not LOST", x.lose(s), 0);
            due("LOST again", x.write(s), -11);
        }
    }

    @Sentence(words = "2 INDEX: there is no such item")
    void findings_index() {
        LadderMaker x = new LadderMaker();
        x.sheet(0, 1);
        due("the first", x.lay(0, 0, 5), 1);
        due("behind the last", x.lay(0, 1, 5), -12);
        due("ahead of the first", x.lay(0, -1, 5), -12);
        due("count(8)", x.count(8), 2);
    }

    @Sentence(words = "3 SIZE: below 0.")
    void findings_size() {
        LadderMaker x = new LadderMaker();
        due("sheet(0, 0)", x.sheet(0, 0), 0);
        due("sheet(0, -1)", x.sheet(0, -1), -13);
        due("count(8)", x.count(8), 3);
    }

    // ---- refusals

    @Sentence(words = "Refusals, the first that fits, in the order told at each act: BAD -2 (a number not as told, no such thing), NULL, NOT -3 (as told), "
        + "FULL -4, OVER -5, DARK -6, STEPS, other FINDINGS.")
    void refusals_theirNumbers() {
        due("BAD", LadderMaker.BAD, -2);
        due("NOT", LadderMaker.NOT, -3);
        due("FULL", LadderMaker.FULL, -4);
        due("OVER", LadderMaker.OVER, -5);
        due("DARK", LadderMaker.DARK, -6);
        due("NONE", LadderMaker.NONE, -1);
    }

    @Sentence(words = "Refusals, the first that fits, in the order told at each act: BAD -2 (a number not as told, no such thing), NULL, NOT -3 (as told), "
        + "FULL -4, OVER -5, DARK -6, STEPS, other FINDINGS.")
    void refusals_theFirstThatFits() {
        refused("reactance: BAD, NOT", bare(), x -> x.reactance(0, 0, 5), refusal(-2), 0);
        refused("unfold: BAD, NOT", bare(), x -> x.unfold(4), -2, 0);
        refused("arm: BAD, FULL", x -> x.arm(2, 9, 9), -2);
        refused("read: BAD, INDEX", x -> x.read(3, -1), -2);
        finding("read: NULL, INDEX", x -> x.read(2, -1), 1);
        finding("read: INDEX, a BAD number", x -> x.read(0, 3), 2);
        refused("sheet: BAD, SIZE", x -> x.sheet(3, -1), -2);
        refused("copy: BAD, NULL, INDEX", x -> x.copy(2, -1, 3, -1, -1), -2);
        finding("copy: NULL, INDEX", x -> x.copy(2, -1, 0, -1, -1), 1);
        refused("lay: BAD, NULL, INDEX", x -> x.lay(3, -1, 0), -2);
        finding("lay: NULL, INDEX", x -> x.lay(2, -1, 0), 1);
        refused("get: BAD, INDEX", x -> x.get(3, -1), refusal(-2));
        refused("get: NULL, INDEX", busy(), x -> x.get(2, -1), refusal(-11), 1);
    }

    @Sentence(words = "They change nothing (FINDINGS but count() 8).")
    void refusals_badChangesNothing() {
        refused("tell", x -> x.tell(0, 7, 1), LEAST_INT);
        refused("tell", x -> x.tell(0, 0, 10), LEAST_INT);
        refused("told", x -> x.told(2, 0), LEAST_INT);
        refused("read", x -> x.read(0, 2), -2);
        refused("read", x -> x.read(3, 0), -2);
        refused("info", x -> x.info(5), -9);
        refused("reactance", x -> x.reactance(1, 10, 0), refusal(-2));
        refused("arm", x -> x.arm(0, 0, 0), -2);
        refused("unfold", x -> x.unfold(4), -2);
        refused("would", x -> x.would(4), -2);
        refused("element", x -> x.element(3, 0), -2);
        refused("fold", x -> x.fold(0, 7), 0);
        refused("bill", x -> x.bill(5, 0), -2);
        refused("kept", x -> x.kept(3, 0), LEAST_INT);
        refused("recall", x -> x.recall(3), -2);
        refused("sheet", x -> x.sheet(0, 41), -2);
        refused("lose", x -> x.lose(3), -2);
        refused("lay", x -> x.lay(3, 0, 1), -2);
        refused("get", x -> x.get(3, 0), refusal(-2));
        refused("copy", x -> x.copy(0, 0, 3, 0, 1), -2);
        refused("write", x -> x.write(3), -2);
        refused("count", x -> x.count(9), -2);
    }

    @Sentence(words = "They change nothing (FINDINGS but count() 8).")
    void refusals_notFullOverDarkAndStepsChangeNothing() {
        refused("reverse NOT", bare(), LadderMaker::reverse, -3, 0);
        refused("reactance NOT", x -> x.reactance(1, 1, 0), refusal(-3));
        refused("back NOT", bare(), LadderMaker::back, -3, 0);
        refused("unfold NOT", bare(), x -> x.unfold(0), -3, 0);
        refused("alike NOT", bare(), LadderMaker::alike, -3, 0);
        refused("take NOT", bare(), LadderMaker::take, -3, 0);
        refused("find NONE", x -> x.find(), -1);
        refused("arm FULL", x -> x.arm(0, 1, 1), -4);
        refused("keep FULL", withTwelve(), LadderMaker::keep, -4, 0);
        refused("take OVER", x -> x.take(), -5);
        refused("unfold OVER", told(row(1, 0, 4, 0, 1), row(0, 2, 0, 3)), x -> x.unfold(0), -5, 0);
        refused("unfold DARK", x -> x.unfold(3), -6);
        refused("unfold, STEP 2 of way 1", told(row(1, 0, 1, 0, 1), row(0, 1, 0, 0, 0, 1)), x -> x.unfold(1), -102, 0);
        refused("unfold, STEP 3 of way 2", told(row(0, 0, 1), row(0, 2, 0, 3, 0, 1)), x -> x.unfold(2), -103, 0);
    }

    private static LadderMaker told(int[] above, int[] below) {
        LadderMaker x = busy();
        tellWish(x, above, below);
        return x;
    }

    private static LadderMaker withTwelve() {
        LadderMaker x = bare();
        for (int k = 0; k < 12; k++) {
            x.tell(0, 0, k % 9 + 1);
            x.tell(0, 2, 1 + k / 9);
            x.tell(1, 1, 1);
            x.keep();
        }
        x.tell(1, 6, 1);
        return x;
    }

    @Sentence(words = "Where the answer is a long, a refusal -x is the least long and x more.")
    void refusals_asLongs() {
        LadderMaker x = busy();
        due("reactance BAD", x.reactance(0, 1, 0), Long.MIN_VALUE + 2);
        due("reactance NOT", x.reactance(1, 1, 0), Long.MIN_VALUE + 3);
        due("get BAD", x.get(3, 0), Long.MIN_VALUE + 2);
        due("get NULL", x.get(2, 0), Long.MIN_VALUE + 11);
        due("get INDEX", x.get(1, 3), Long.MIN_VALUE + 12);
    }
}
