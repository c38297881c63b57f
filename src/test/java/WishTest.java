/** Promises 1 to 8: the wish. */
public final class WishTest {
    private static final Check check = new Check();

    public static void main(String[] args) {
        newObject();
        tellAndTold();
        turn();
        reverse();
        read();
        info();
        reactance();
        check.end();
    }

    private static void newObject() {
        LadderMaker x = new LadderMaker();
        check.wishIs("new", x, Check.row(), Check.row());
        check.foldIs("new", x, Check.row(), Check.row());
        check.ladderIs("new", x);
        int[] counts = { 0, 0, 0, 0, 0, 0, -3, 0, 0 };
        for (int what = 0; what <= 8; what++) check.due("new: count(" + what + ")", x.count(what), counts[what]);
        check.due("new: bill(0, 0)", x.bill(0, 0), -2);
        check.due("new: values()", x.values(), 0);
        check.due("new: kept(0, 0)", x.kept(0, 0), Check.LEAST_INT);
        check.due("new: find()", x.find(), -1);
        for (int s = 0; s <= 2; s++) check.due("new: lose(" + s + ")", x.lose(s), -11);
    }

    private static void tellAndTold() {
        LadderMaker x = new LadderMaker();
        for (int which = 0; which <= 1; which++) {
            for (int power = 0; power <= 6; power++) {
                check.due("tell first", x.tell(which, power, power + which), 0);
                check.due("tell again", x.tell(which, power, power - 9 + 9 * which), power + which);
            }
        }
        check.wishIs("told", x, Check.row(-9, -8, -7, -6, -5, -4, -3), Check.row(0, 1, 2, 3, 4, 5, 6));
        check.due("tell(0, 6, 9)", x.tell(0, 6, 9), -3);
        check.due("tell(0, 6, -9)", x.tell(0, 6, -9), 9);
        int[][] bad = { { -1, 0, 0 }, { 2, 0, 0 }, { 0, -1, 0 }, { 1, 7, 0 }, { 0, 0, 10 }, { 1, 0, -10 },
            { 0, Integer.MAX_VALUE, 1 }, { 0, Integer.MIN_VALUE, 1 }, { 0, 0, Integer.MIN_VALUE } };
        for (int[] b : bad) check.due("tell not as told", x.tell(b[0], b[1], b[2]), Check.LEAST_INT);
        check.wishIs("after refusals", x, Check.row(-9, -8, -7, -6, -5, -4, -9), Check.row(0, 1, 2, 3, 4, 5, 6));
        check.due("told(-1, 0)", x.told(-1, 0), Check.LEAST_INT);
        check.due("told(2, 0)", x.told(2, 0), Check.LEAST_INT);
        check.due("told(0, -1)", x.told(0, -1), Check.LEAST_INT);
        check.due("told(1, 7)", x.told(1, 7), Check.LEAST_INT);
    }

    private static void turn() {
        LadderMaker x = new LadderMaker();
        Check.wish(x, Check.row(1, 0, 2), Check.row(0, 3));
        check.due("turn() of a lawful one", x.turn(), 1);
        check.wishIs("turned", x, Check.row(0, 3), Check.row(1, 0, 2));
        check.due("turn() back", x.turn(), 1);
        check.wishIs("turned back", x, Check.row(1, 0, 2), Check.row(0, 3));
        x.tell(1, 0, 1);
        check.due("turn() of one that is not", x.turn(), 0);
        check.wishIs("turned, not lawful", x, Check.row(1, 3), Check.row(1, 0, 2));
    }

    private static void reverse() {
        LadderMaker x = new LadderMaker();
        check.due("reverse() of 0 by 0", x.reverse(), -3);
        Check.wish(x, Check.row(2, 3), Check.row(0, 0, 5));
        check.due("reverse()", x.reverse(), 2);
        check.wishIs("reversed", x, Check.row(0, 3, 2), Check.row(5));
        Check.wish(x, Check.row(1, 2, 3, 4, 5, 6, 7), Check.row());
        check.due("reverse() of all powers", x.reverse(), 6);
        check.wishIs("all powers", x, Check.row(7, 6, 5, 4, 3, 2, 1), Check.row());
        Check.wish(x, Check.row(), Check.row(4));
        check.due("reverse() of a number", x.reverse(), 0);
        check.wishIs("a number", x, Check.row(), Check.row(4));
        Check.wish(x, Check.row(), Check.row(1, 2, 0, 4));
        check.due("reverse() of BELOW alone", x.reverse(), 3);
        check.wishIs("BELOW alone", x, Check.row(), Check.row(4, 0, 2, 1));
    }

    private static void read() {
        LadderMaker x = new LadderMaker();
        check.due("read(0, 0) LOST", x.read(0, 0), -11);
        check.due("read(-1, 0)", x.read(-1, 0), -2);
        check.due("read(3, 0)", x.read(3, 0), -2);
        check.due("count(8)", x.count(8), 1);
        x.sheet(1, 15);
        for (int i = 0; i < 15; i++) x.lay(1, i, i - 9);
        check.due("read(1, 0)", x.read(1, 0), 14);
        check.wishIs("read", x, Check.row(-9, -8, -7, -6, -5, -4, -3), Check.row(-2, -1, 0, 1, 2, 3, 4));
        check.due("read(1, 1)", x.read(1, 1), 14);
        check.wishIs("read from 1", x, Check.row(-8, -7, -6, -5, -4, -3, -2), Check.row(-1, 0, 1, 2, 3, 4, 5));
        check.due("read(1, 2)", x.read(1, 2), -12);
        check.due("read(1, -1)", x.read(1, -1), -12);
        check.due("read, far", x.read(1, Integer.MAX_VALUE), -12);
        x.lay(1, 14, 10);
        check.due("INDEX ahead of BAD numbers", x.read(1, 2), -12);
        check.due("a number above", x.read(1, 1), -2);
        x.lay(1, 14, -10);
        check.due("a number below", x.read(1, 1), -2);
        x.lay(1, 14, Integer.MIN_VALUE);
        check.due("a number far below", x.read(1, 1), -2);
        check.wishIs("refused", x, Check.row(-8, -7, -6, -5, -4, -3, -2), Check.row(-1, 0, 1, 2, 3, 4, 5));
        check.due("count(8) after BAD", x.count(8), 2);
        x.lay(1, 14, 9);
        check.due("9 is as told", x.read(1, 1), 14);
        check.due("told(1, 6)", x.told(1, 6), 9);
    }

    private static void infoIs(LadderMaker x, int... want) {
        for (int what = 0; what <= 4; what++) check.due("info(" + what + ")", x.info(what), want[what]);
    }

    private static void info() {
        LadderMaker x = new LadderMaker();
        infoIs(x, -1, -1, 0, -1, -1);
        Check.wish(x, Check.row(0, 0, 2, 0, 1), Check.row(0, 3, 0, 0, 0, -1));
        infoIs(x, 4, 5, 1, 2, 1);
        Check.wish(x, Check.row(0, 3), Check.row(1, 0, 0, 0, 0, 0, 1));
        infoIs(x, 1, 6, 1, 1, 0);
        Check.wish(x, Check.row(1, 1), Check.row(1));
        infoIs(x, 1, 0, 0, 0, 0);
        Check.wish(x, Check.row(1), Check.row(0, 0, 1));
        infoIs(x, 0, 2, 0, 0, 2);
        Check.wish(x, Check.row(0, 1), Check.row(0, 0, 0, 1));
        infoIs(x, 1, 3, 0, 1, 3);
        Check.wish(x, Check.row(), Check.row(0, 1));
        infoIs(x, -1, 1, 0, -1, 1);
        Check.wish(x, Check.row(1), Check.row());
        infoIs(x, 0, -1, 0, 0, -1);
        check.due("info(-1)", x.info(-1), -9);
        check.due("info(5)", x.info(5), -9);
    }

    private static void reactanceIs(LadderMaker x, int n, int d, long above, long below) {
        check.due("reactance(" + n + ", " + d + ", 0)", x.reactance(n, d, 0), above);
        check.due("reactance(" + n + ", " + d + ", 1)", x.reactance(n, d, 1), below);
    }

    private static void reactance() {
        LadderMaker x = new LadderMaker();
        long bad = Check.refusal(-2), not = Check.refusal(-3);
        reactanceIs(x, 1, 1, not, not);
        check.due("BAD ahead of NOT", x.reactance(0, 1, 0), bad);
        Check.wish(x, Check.row(0, 2), Check.row(4));
        reactanceIs(x, 3, 2, 3, 4);
        reactanceIs(x, 9, 9, 1, 2);
        Check.wish(x, Check.row(1), Check.row(0, 1));
        reactanceIs(x, 3, 2, -2, 3);
        Check.wish(x, Check.row(1), Check.row(0, -1));
        reactanceIs(x, 2, 1, 1, 2);
        Check.wish(x, Check.row(0, 1), Check.row(-1));
        reactanceIs(x, 2, 4, -1, 2);
        Check.wish(x, Check.row(4, 0, 1), Check.row(0, 1));
        reactanceIs(x, 2, 1, 0, 1);
        Check.wish(x, Check.row(0, 1), Check.row(4, 0, 1));
        reactanceIs(x, 2, 1, not, not);
        reactanceIs(x, 1, 1, 1, 3);
        Check.wish(x, Check.row(0, 0, 0, 1), Check.row(1));
        reactanceIs(x, 3, 2, -27, 8);
        Check.wish(x, Check.row(0, 0, 0, 0, 0, 0, 9), Check.row(0, 1));
        reactanceIs(x, 9, 1, 531441, 1);
        reactanceIs(x, 1, 9, 1, 6561);
        Check.wish(x, Check.row(1), Check.row(0, 1, 0, 1));
        reactanceIs(x, 1, 1, not, not);
        reactanceIs(x, 2, 1, 1, 6);
        int[][] wrong = { { 0, 1, 0 }, { 10, 1, 0 }, { 1, 0, 0 }, { 1, 10, 0 }, { 1, 1, -1 }, { 1, 1, 2 }, { -1, -1, 0 } };
        for (int[] w : wrong) check.due("reactance not as told", x.reactance(w[0], w[1], w[2]), bad);
        x.tell(0, 1, 1);
        reactanceIs(x, 1, 1, not, not);
    }
}
