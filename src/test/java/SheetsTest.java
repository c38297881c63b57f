/** Promises 23 to 28: sheets. */
public final class SheetsTest {
    private static final Check check = new Check();

    public static void main(String[] args) {
        sheetAndLose();
        layAndGet();
        copy();
        copyRefused();
        write();
        check.end();
    }

    private static void sheetAndLose() {
        LadderMaker x = new LadderMaker();
        check.due("sheet(-1, 1)", x.sheet(-1, 1), -2);
        check.due("sheet(3, 1)", x.sheet(3, 1), -2);
        check.due("sheet(0, 41)", x.sheet(0, 41), -2);
        check.due("BAD ahead of SIZE", x.sheet(3, -1), -2);
        check.due("count(8)", x.count(8), 0);
        check.due("SIZE", x.sheet(0, -1), -13);
        check.due("count(8)", x.count(8), 3);
        check.due("count(7)", x.count(7), 0);
        check.due("lose(0) LOST", x.lose(0), -11);
        check.due("count(8)", x.count(8), 1);
        check.due("sheet(0, 0)", x.sheet(0, 0), 0);
        check.due("sheet(2, 40)", x.sheet(2, 40), 40);
        check.due("count(7)", x.count(7), 2);
        check.due("get(2, 39)", x.get(2, 39), 0);
        x.lay(2, 0, 5);
        check.due("SIZE changes nothing", x.sheet(2, Integer.MIN_VALUE), -13);
        check.due("get(2, 0)", x.get(2, 0), 5);
        check.due("a new row", x.sheet(2, 3), 3);
        check.due("get(2, 0)", x.get(2, 0), 0);
        x.lay(2, 2, 8);
        check.due("lose(2)", x.lose(2), 3);
        check.due("lose(2)", x.lose(2), -11);
        check.due("sheet(2, 3)", x.sheet(2, 3), 3);
        check.due("get(2, 2) of a new row", x.get(2, 2), 0);
        check.due("lose(0)", x.lose(0), 0);
        check.due("lose(-1)", x.lose(-1), -2);
        check.due("lose(3)", x.lose(3), -2);
        check.due("count(7)", x.count(7), 1);
    }

    private static void layAndGet() {
        LadderMaker x = new LadderMaker();
        check.due("lay(1, 0, 1) LOST", x.lay(1, 0, 1), -11);
        check.due("get(1, 0) LOST", x.get(1, 0), Check.refusal(-11));
        check.due("lay(3, 0, 1)", x.lay(3, 0, 1), -2);
        check.due("get(-1, 0)", x.get(-1, 0), Check.refusal(-2));
        check.due("NULL ahead of INDEX", x.lay(1, -1, 1), -11);
        x.sheet(1, 2);
        check.due("lay(1, 1, least)", x.lay(1, 1, Integer.MIN_VALUE), 1);
        check.due("get(1, 1)", x.get(1, 1), Integer.MIN_VALUE);
        check.due("lay(1, 0, greatest)", x.lay(1, 0, Integer.MAX_VALUE), 1);
        check.due("get(1, 0)", x.get(1, 0), Integer.MAX_VALUE);
        check.due("count(8)", x.count(8), 1);
        check.due("lay(1, 2, 1)", x.lay(1, 2, 1), -12);
        check.due("lay(1, -1, 1)", x.lay(1, -1, 1), -12);
        check.due("get(1, 2)", x.get(1, 2), Check.refusal(-12));
        check.due("get(1, -1)", x.get(1, -1), Check.refusal(-12));
        check.due("get(1, far)", x.get(1, Integer.MAX_VALUE), Check.refusal(-12));
        check.due("count(8)", x.count(8), 2);
        x.sheet(0, 0);
        check.due("get(0, 0) of no items", x.get(0, 0), Check.refusal(-12));
    }

    private static LadderMaker rows() {
        LadderMaker x = new LadderMaker();
        x.sheet(0, 5);
        x.sheet(1, 3);
        for (int i = 0; i < 5; i++) x.lay(0, i, i + 1);
        return x;
    }

    private static void rowIs(LadderMaker x, int s, long... want) {
        for (int i = 0; i < want.length; i++) check.due("get(" + s + ", " + i + ")", x.get(s, i), want[i]);
        check.due("get behind the last", x.get(s, want.length), Check.refusal(-12));
    }

    private static void copy() {
        LadderMaker x = rows();
        check.due("copy(0, 1, 1, 0, 3)", x.copy(0, 1, 1, 0, 3), 1);
        rowIs(x, 1, 2, 3, 4);
        check.due("onto itself, up", x.copy(0, 0, 0, 1, 4), 1);
        rowIs(x, 0, 1, 1, 2, 3, 4);
        check.due("onto itself, down", x.copy(0, 2, 0, 0, 3), 1);
        rowIs(x, 0, 2, 3, 4, 3, 4);
        check.due("none, at both ends", x.copy(0, 5, 1, 3, 0), 1);
        rowIs(x, 0, 2, 3, 4, 3, 4);
        rowIs(x, 1, 2, 3, 4);
        check.due("count(8)", x.count(8), 2);
        x.sheet(0, 40);
        x.sheet(1, 40);
        x.lay(0, 0, 7);
        x.lay(0, 39, 8);
        check.due("all of forty", x.copy(0, 0, 1, 0, 40), 1);
        check.due("get(1, 0)", x.get(1, 0), 7);
        check.due("get(1, 39)", x.get(1, 39), 8);
    }

    private static void copyRefused() {
        LadderMaker x = rows();
        check.due("copy from -1", x.copy(-1, 0, 2, 0, 1), -2);
        check.due("BAD ahead of NULL", x.copy(2, 0, 3, 0, 1), -2);
        check.due("count(8)", x.count(8), 0);
        check.due("from LOST", x.copy(2, 0, 0, 0, 1), -11);
        check.due("to LOST, ahead of INDEX", x.copy(0, -1, 2, 0, 1), -11);
        check.due("count(8)", x.count(8), 1);
        int[][] index = { { 0, -1, 1, 0, 1 }, { 0, 0, 1, -1, 1 }, { 0, 0, 1, 0, -1 }, { 0, 3, 1, 0, 3 }, { 0, 0, 1, 1, 3 },
            { 0, 6, 1, 0, 0 }, { 0, 0, 1, 4, 0 }, { 0, Integer.MAX_VALUE, 1, 0, Integer.MAX_VALUE },
            { 0, 1, 1, 0, Integer.MAX_VALUE }, { 0, 0, 1, 0, Integer.MIN_VALUE }, { 0, Integer.MAX_VALUE, 1, 0, 1 } };
        for (int[] n : index) check.due("INDEX", x.copy(n[0], n[1], n[2], n[3], n[4]), -12);
        check.due("count(8)", x.count(8), 2);
        rowIs(x, 0, 1, 2, 3, 4, 5);
        rowIs(x, 1, 0, 0, 0);
    }

    private static void write() {
        LadderMaker x = rows();
        check.due("write(-1)", x.write(-1), -2);
        check.due("write(3)", x.write(3), -2);
        check.due("write(2) LOST", x.write(2), -11);
        check.due("write(0), no ARMS", x.write(0), 0);
        rowIs(x, 0, 1, 2, 3, 4, 5);
        x.arm(1, 2, 3);
        x.arm(0, 0, 4);
        x.sheet(2, 12);
        x.lay(2, 10, 77);
        check.due("write(2)", x.write(2), 10);
        rowIs(x, 2, 1, 2, 1, 3, 1, 0, 0, 0, 4, 1, 77, 0);
        check.due("write(1), three items", x.write(1), 3);
        rowIs(x, 1, 1, 2, 1);
        x.sheet(1, 0);
        check.due("write(1), no items", x.write(1), 0);
    }
}
