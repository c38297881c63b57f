/** Promises 17 to 22: the bill, the memory. */
public final class BillAndMemoryTest {
    private static final Check check = new Check();

    public static void main(String[] args) {
        bill();
        billOfFractions();
        keepAndFind();
        asPair();
        full();
        recall();
        check.end();
    }

    private static void billIs(LadderMaker x, int... items) {
        check.due("count(3)", x.count(3), items.length / 4);
        for (int i = 0; i < items.length; i++) {
            check.due("bill(" + i / 4 + ", " + i % 4 + ")", x.bill(i / 4, i % 4), items[i]);
        }
        check.due("bill behind the last", x.bill(items.length / 4, 0), -2);
    }

    private static void bill() {
        LadderMaker x = new LadderMaker();
        billIs(x);
        check.due("values() of none", x.values(), 0);
        x.arm(0, 2, 3);
        x.arm(1, 2, 2);
        x.arm(0, 0, 3);
        billIs(x, 0, 2, 1, 2, 1, 3, 1, 2, 1, 2, 1, 1);
        check.due("values() whatever their kind", x.values(), 2);
        int[][] bad = { { -1, 0 }, { 3, 0 }, { 0, -1 }, { 0, 4 }, { Integer.MIN_VALUE, 0 } };
        for (int[] b : bad) check.due("bill not as told", x.bill(b[0], b[1]), -2);
        x.back();
        billIs(x, 0, 2, 1, 2, 1, 3, 1, 1, 1, 2, 1, 1);
        LadderMaker six = new LadderMaker();
        for (int i = 1; i <= 6; i++) six.arm(i % 2, i % 2 == 0 ? i : 0, i % 2 == 0 ? 0 : i);
        billIs(six, 1, 1, 1, 1, 0, 2, 1, 1, 1, 3, 1, 1, 0, 4, 1, 1, 1, 5, 1, 1, 0, 6, 1, 1);
        check.due("values() of six", six.values(), 6);
    }

    /** 1 by 2 and 2 by 1 are different, and so are 2 by 3 and 2 by 1. */
    private static void billOfFractions() {
        LadderMaker x = new LadderMaker();
        Check.wish(x, Check.row(3, 0, 4, 0, 1), Check.row(0, 2, 0, 1));
        check.due("unfold(0)", x.unfold(0), 4);
        billIs(x, 0, 1, 1, 1, 1, 1, 2, 1, 0, 4, 1, 1, 1, 1, 6, 1);
        check.due("values()", x.values(), 4);
        check.due("unfold(2)", x.unfold(2), 4);
        billIs(x, 0, 1, 1, 1, 1, 2, 3, 1, 0, 1, 4, 1, 1, 2, 1, 1);
        check.due("values()", x.values(), 4);
    }

    private static void keepAndFind() {
        LadderMaker x = new LadderMaker();
        check.due("find() in an empty one", x.find(), -1);
        check.due("keep() 0 by 0", x.keep(), 0);
        check.due("find() 0 by 0", x.find(), 0);
        Check.wish(x, Check.row(0, 1), Check.row(1));
        check.due("find() another", x.find(), -1);
        check.due("keep()", x.keep(), 1);
        check.due("keep() again", x.keep(), 1);
        check.due("kept(0, 0)", x.kept(0, 0), 1);
        check.due("kept(1, 0)", x.kept(1, 0), 2);
        check.due("count(4)", x.count(4), 2);
        check.due("count(5)", x.count(5), 3);
        Check.wish(x, Check.row(0, 0, 1), Check.row(0, 1));
        check.due("one that is ALIKE, but not the same pair", x.find(), -1);
        check.due("is kept on its own", x.keep(), 2);
        int[][] bad = { { -1, 0 }, { 3, 0 }, { 0, -1 }, { 0, 15 }, { Integer.MAX_VALUE, 1 } };
        for (int[] b : bad) check.due("kept not as told", x.kept(b[0], b[1]), Check.LEAST_INT);
    }

    private static void keptIs(LadderMaker x, int k, int[] above, int[] below) {
        for (int power = 0; power <= 6; power++) {
            check.due("kept(" + k + ", " + (1 + power) + ")", x.kept(k, 1 + power), power < above.length ? above[power] : 0);
            check.due("kept(" + k + ", " + (8 + power) + ")", x.kept(k, 8 + power), power < below.length ? below[power] : 0);
        }
    }

    private static void asPair() {
        LadderMaker x = new LadderMaker();
        Check.wish(x, Check.row(0, 2), Check.row(6, 0, -4));
        check.due("keep()", x.keep(), 0);
        keptIs(x, 0, Check.row(0, -1), Check.row(-3, 0, 2));
        check.wishIs("THE WISH stays", x, Check.row(0, 2), Check.row(6, 0, -4));
        Check.wish(x, Check.row(0, -3), Check.row(-9, 0, 6));
        check.due("the same AS A PAIR", x.keep(), 0);
        Check.wish(x, Check.row(3, 0, 0, 0, 0, 0, -6), Check.row());
        check.due("BELOW is 0", x.keep(), 1);
        keptIs(x, 1, Check.row(-1, 0, 0, 0, 0, 0, 2), Check.row());
        Check.wish(x, Check.row(-1, 0, 0, 0, 0, 0, 2), Check.row());
        check.due("find()", x.find(), 1);
        Check.wish(x, Check.row(), Check.row(0, 0, 0, -8));
        check.due("ABOVE is 0", x.keep(), 2);
        keptIs(x, 2, Check.row(), Check.row(0, 0, 0, 1));
        Check.wish(x, Check.row(-8, 4), Check.row(9));
        check.due("no common divisor", x.keep(), 3);
        keptIs(x, 3, Check.row(-8, 4), Check.row(9));
    }

    private static void full() {
        LadderMaker x = new LadderMaker();
        for (int k = 0; k < 12; k++) {
            Check.wish(x, Check.row(k % 9 + 1, 1 + k / 9), Check.row(0, 0, 0, 0, 0, 0, 1));
            check.due("keep()", x.keep(), k);
        }
        Check.wish(x, Check.row(1), Check.row(0, 1));
        check.due("a thirteenth", x.keep(), -4);
        check.due("find()", x.find(), -1);
        check.due("count(4)", x.count(4), 12);
        check.due("count(5)", x.count(5), 12);
        check.due("recall(11)", x.recall(11), 1);
        check.due("one that is there", x.keep(), 11);
        check.due("kept(11, 0)", x.kept(11, 0), 2);
        check.due("count(5)", x.count(5), 13);
    }

    private static void recall() {
        LadderMaker x = new LadderMaker();
        check.due("recall(0) of none", x.recall(0), -2);
        Check.wish(x, Check.row(0, 2), Check.row(-4, 0, -6));
        x.keep();
        x.keep();
        Check.wish(x, Check.row(1, 2, 3, 4, 5, 6, 7), Check.row(7, 6, 5, 4, 3, 2, 1));
        x.keep();
        check.due("recall(0)", x.recall(0), 2);
        check.wishIs("taken up again", x, Check.row(0, -1), Check.row(2, 0, 3));
        check.due("recall(1)", x.recall(1), 1);
        check.wishIs("taken up again", x, Check.row(1, 2, 3, 4, 5, 6, 7), Check.row(7, 6, 5, 4, 3, 2, 1));
        check.due("recall(-1)", x.recall(-1), -2);
        check.due("recall(2)", x.recall(2), -2);
        check.due("find() after refusals", x.find(), 1);
    }
}
