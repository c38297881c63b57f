/** Promises 29 and 30. */
public final class CountAndDigestTest {
    private static final Check check = new Check();
    private static final long NOT_AS_LONG = Check.refusal(-3);

    public static void main(String[] args) {
        count();
        digestOfNew();
        digestOfFull();
        check.end();
    }

    private static LadderMaker full() {
        LadderMaker x = new LadderMaker();
        Check.wish(x, Check.row(1, 0, 2), Check.row(0, 2));
        x.unfold(3);
        x.arm(0, 2, 0);
        x.keep();
        x.keep();
        x.turn();
        x.keep();
        x.turn();
        x.sheet(1, 4);
        return x;
    }

    private static void count() {
        LadderMaker x = full();
        int[] want = { 2, 3, 1, 3, 2, 3, 0, 1, 0 };
        for (int what = 0; what <= 8; what++) check.due("count(" + what + ")", x.count(what), want[what]);
        check.due("count(-1)", x.count(-1), -2);
        check.due("count(9)", x.count(9), -2);
        x.back();
        check.due("count(6) of one that is ALIKE", x.count(6), 1);
        x.get(0, 0);
        check.due("count(8)", x.count(8), 1);
        x.get(1, 4);
        check.due("count(8)", x.count(8), 2);
        x.sheet(1, -1);
        check.due("count(8)", x.count(8), 3);
        x.get(7, 7);
        check.due("count(8) after BAD", x.count(8), 3);
        x.tell(0, 1, 1);
        check.due("count(2)", x.count(2), 0);
    }

    private static long over(long... numbers) {
        long h = 17;
        for (long n : numbers) h = 31 * h + n;
        return h;
    }

    private static void digestOfNew() {
        long want = over(0, 0, 0, 0, 0, 0, -3, 0,
            0, 0, 0, 0, 0, 0, 0, 0, 0, 0, 0, 0, 0, 0, 0, 0, 0, 0, 0, 0, 0, 0, 0, 0, 0, 0, 0, 0,
            -1, -1, 0, -1, -1, -3, -3, -3, -3, NOT_AS_LONG, NOT_AS_LONG, NOT_AS_LONG, NOT_AS_LONG, 0, -1);
        check.due("digest() of a new one", new LadderMaker().digest(), want);
    }

    /**
     * THE WISH is (1 and 2 s s) by 2 s; behind the SHUNT ARM, COIL 1 and CAPACITOR 2, which is that,
     * stands a SERIES COIL 2: 2 s by 1, turned over and added 1 by 2 s and 2 s by (2 s s and 1).
     */
    private static void digestOfFull() {
        LadderMaker x = full();
        long want = over(2, 3, 1, 3, 2, 3, 0, 1,
            1, 0, 0, 1, 0, 2, 2, 0, 2, 0, 0, 6, 0, 0, 4, 0, 0, 0, 0, 0, 0, 0, 0, 0, 0, 0, 0, 0,
            2, 1, 1, 0, 1, 2, 2, 2, 2, 1, 2, 7, 6,
            1, 1, 1, 2, 1, 0, 2, 1, 0, 0,
            0, 1, 1, 1, 1, 2, 1, 1, 0, 2, 1, 1,
            2, 0,
            2, 1, 0, 2, 0, 0, 0, 0, 0, 2, 0, 0, 0, 0, 0,
            1, 0, 2, 0, 0, 0, 0, 0, 1, 0, 2, 0, 0, 0, 0);
        check.due("digest()", x.digest(), want);
        check.due("digest() again", x.digest(), want);
        x.get(0, 0);
        check.due("digest() leaves out the FINDING", x.digest(), want);
        x.lay(1, 0, 9);
        check.due("digest() leaves out items", x.digest(), want);
    }
}
