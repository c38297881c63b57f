/** Promises 23 to 28: sheets. */
public final class SheetsTest extends SentenceRunner {
    public static void main(String[] args) throws Exception {
        new SheetsTest().runAll();
    }

    /** SHEET 0 has 1 2 3 4 5, SHEET 1 has 0 0 0, SHEET 2 is LOST. */
    private static LadderMaker rows() {
        LadderMaker x = new LadderMaker();
        x.sheet(0, 5);
        x.sheet(1, 3);
        for (int i = 0; i < 5; i++) x.lay(0, i, i + 1);
        return x;
    }

    private void rowsStand(LadderMaker x) {
        sheetIs("refused", x, 0, 1, 2, 3, 4, 5);
        sheetIs("refused", x, 1, 0, 0, 0);
        due("SHEET 2 is LOST", x.count(7), 2);
    }

    // ---- 23 sheet

    @Sentence(promise = 23, words = "A SHEET is a new row of n longs: n.")
    void promise23_aNewRow() {
        LadderMaker x = rows();
        due("of no items", x.sheet(2, 0), 0);
        sheetIs("none", x, 2);
        due("count(7)", x.count(7), 3);
        due("less items than before", x.sheet(0, 2), 2);
        sheetIs("0 at first", x, 0, 0, 0);
        due("more items", x.sheet(0, 6), 6);
        sheetIs("nothing of the old row", x, 0, 0, 0, 0, 0, 0, 0);
        x.lay(0, 5, 7);
        due("as many items", x.sheet(0, 6), 6);
        sheetIs("nothing of the old row", x, 0, 0, 0, 0, 0, 0, 0);
        due("forty items", x.sheet(1, 40), 40);
        due("the last", x.lay(1, 39, 1), 1);
    }

    @Sentence(promise = 23, words = "BAD: SHEET, above 40")
    void promise23_bad() {
        LadderMaker x = rows();
        due("sheet(-1, 1)", x.sheet(-1, 1), -2);
        due("sheet(3, 1)", x.sheet(3, 1), -2);
        due("sheet(0, 41)", x.sheet(0, 41), -2);
        due("sheet(2, 41)", x.sheet(2, 41), -2);
        due("sheet(0, the greatest)", x.sheet(0, Integer.MAX_VALUE), -2);
        for (int far : FAR) due("sheet(" + far + ", 1)", x.sheet(far, 1), -2);
        due("ahead of SIZE", x.sheet(3, -1), -2);
        due("count(8)", x.count(8), 0);
        rowsStand(x);
    }

    @Sentence(promise = 23, words = "SIZE.")
    void promise23_size() {
        LadderMaker x = rows();
        due("sheet(0, -1)", x.sheet(0, -1), -13);
        due("count(8)", x.count(8), 3);
        due("of one that is LOST", x.sheet(2, -1), -13);
        due("sheet(1, the least)", x.sheet(1, Integer.MIN_VALUE), -13);
        rowsStand(x);
    }

    // ---- 24 lose

    @Sentence(promise = 24, words = "It is LOST: how many items it had.")
    void promise24_lose() {
        LadderMaker x = rows();
        due("lose(0)", x.lose(0), 5);
        due("count(7)", x.count(7), 1);
        due("it is LOST", x.get(0, 0), refusal(-11));
        due("sheet(0, 5)", x.sheet(0, 5), 5);
        sheetIs("nothing of it comes back", x, 0, 0, 0, 0, 0, 0);
        x.sheet(1, 0);
        due("of no items", x.lose(1), 0);
        x.sheet(2, 40);
        due("of forty items", x.lose(2), 40);
    }

    @Sentence(promise = 24, words = "BAD;")
    void promise24_bad() {
        LadderMaker x = rows();
        due("lose(-1)", x.lose(-1), -2);
        due("lose(3)", x.lose(3), -2);
        for (int far : FAR) due("lose(" + far + ")", x.lose(far), -2);
        due("count(8)", x.count(8), 0);
        rowsStand(x);
    }

    @Sentence(promise = 24, words = "NULL.")
    void promise24_null() {
        LadderMaker x = rows();
        due("lose(2)", x.lose(2), -11);
        due("count(8)", x.count(8), 1);
        x.lose(1);
        due("twice", x.lose(1), -11);
        due("count(7)", x.count(7), 1);
    }

    // ---- 25 lay

    @Sentence(promise = 25, words = "Item i becomes v: 1.")
    void promise25_lay() {
        LadderMaker x = rows();
        due("the first, the least int", x.lay(0, 0, Integer.MIN_VALUE), 1);
        due("the last, the greatest int", x.lay(0, 4, Integer.MAX_VALUE), 1);
        due("0", x.lay(0, 2, 0), 1);
        sheetIs("laid", x, 0, Integer.MIN_VALUE, 2, 0, 4, Integer.MAX_VALUE);
        sheetIs("the other one stays", x, 1, 0, 0, 0);
        due("count(8)", x.count(8), 2);
    }

    @Sentence(promise = 25, words = "BAD;")
    void promise25_bad() {
        LadderMaker x = rows();
        due("lay(-1, 0, 9)", x.lay(-1, 0, 9), -2);
        due("lay(3, 0, 9)", x.lay(3, 0, 9), -2);
        for (int far : FAR) due("lay(" + far + ", 0, 9)", x.lay(far, 0, 9), -2);
        due("ahead of INDEX", x.lay(3, -1, 9), -2);
        due("count(8)", x.count(8), 0);
        rowsStand(x);
    }

    @Sentence(promise = 25, words = "NULL;")
    void promise25_null() {
        LadderMaker x = rows();
        due("lay(2, 0, 9)", x.lay(2, 0, 9), -11);
        due("count(8)", x.count(8), 1);
        due("ahead of INDEX", x.lay(2, -1, 9), -11);
        rowsStand(x);
    }

    @Sentence(promise = 25, words = "INDEX.")
    void promise25_index() {
        LadderMaker x = rows();
        due("lay(0, -1, 9)", x.lay(0, -1, 9), -12);
        due("count(8)", x.count(8), 2);
        due("lay(0, 5, 9)", x.lay(0, 5, 9), -12);
        due("an item of another SHEET", x.lay(1, 3, 9), -12);
        for (int far : FAR) due("lay(0, " + far + ", 9)", x.lay(0, far, 9), -12);
        rowsStand(x);
        x.sheet(1, 0);
        due("of no items", x.lay(1, 0, 9), -12);
        x.sheet(1, 40);
        due("of forty items", x.lay(1, 40, 9), -12);
    }

    // ---- 26 get

    @Sentence(promise = 26, words = "Item i of it.")
    void promise26_get() {
        LadderMaker x = rows();
        for (int i = 0; i < 5; i++) due("get(0, " + i + ")", x.get(0, i), i + 1);
        x.lay(0, 0, -1);
        due("get(0, 0)", x.get(0, 0), -1);
    }

    @Sentence(promise = 26, words = "BAD;")
    void promise26_bad() {
        LadderMaker x = rows();
        due("get(-1, 0)", x.get(-1, 0), refusal(-2));
        due("get(3, 0)", x.get(3, 0), refusal(-2));
        for (int far : FAR) due("get(" + far + ", 0)", x.get(far, 0), refusal(-2));
        due("ahead of INDEX", x.get(3, -1), refusal(-2));
        due("count(8)", x.count(8), 0);
    }

    @Sentence(promise = 26, words = "NULL;")
    void promise26_null() {
        LadderMaker x = rows();
        due("get(2, 0)", x.get(2, 0), refusal(-11));
        due("count(8)", x.count(8), 1);
        due("ahead of INDEX", x.get(2, 40), refusal(-11));
    }

    @Sentence(promise = 26, words = "INDEX.")
    void promise26_index() {
        LadderMaker x = rows();
        due("get(0, -1)", x.get(0, -1), refusal(-12));
        due("count(8)", x.count(8), 2);
        due("get(0, 5)", x.get(0, 5), refusal(-12));
        due("get(1, 3)", x.get(1, 3), refusal(-12));
        for (int far : FAR) due("get(0, " + far + ")", x.get(0, far), refusal(-12));
        x.sheet(1, 0);
        due("of no items", x.get(1, 0), refusal(-12));
        x.sheet(1, 40);
        due("of forty items", x.get(1, 40), refusal(-12));
    }

    // ---- 27 copy

    @Sentence(promise = 27, words = "n items of SHEET s, from i on, come to SHEET t (perhaps s, as they were), from j on: 1.")
    void promise27_toAnotherSheet() {
        LadderMaker x = rows();
        due("to its end", x.copy(0, 1, 1, 0, 3), 1);
        sheetIs("copied", x, 1, 2, 3, 4);
        due("from the end", x.copy(0, 4, 1, 1, 1), 1);
        sheetIs("copied", x, 1, 2, 5, 4);
        sheetIs("the other one stays", x, 0, 1, 2, 3, 4, 5);
        x.sheet(0, 40);
        x.sheet(2, 40);
        for (int i = 0; i < 40; i++) x.lay(0, i, 100 + i);
        due("all of forty", x.copy(0, 0, 2, 0, 40), 1);
        for (int i = 0; i < 40; i++) due("get(2, " + i + ")", x.get(2, i), 100 + i);
    }

    @Sentence(promise = 27, words = "n items of SHEET s, from i on, come to SHEET t (perhaps s, as they were), from j on: 1.")
    void promise27_withinOneSheetAsTheyWere() {
        LadderMaker x = rows();
        due("up", x.copy(0, 0, 0, 1, 4), 1);
        sheetIs("up", x, 0, 1, 1, 2, 3, 4);
        due("down", x.copy(0, 2, 0, 0, 3), 1);
        sheetIs("down", x, 0, 2, 3, 4, 3, 4);
        due("onto itself", x.copy(0, 0, 0, 0, 5), 1);
        sheetIs("onto itself", x, 0, 2, 3, 4, 3, 4);
    }

    private void copyIs(int answer, int s, int i, int t, int j, int n) {
        LadderMaker x = rows();
        due("copy(" + s + ", " + i + ", " + t + ", " + j + ", " + n + ")", x.copy(s, i, t, j, n), answer);
        due("count(8)", x.count(8), answer < -10 ? -10 - answer : 0);
        rowsStand(x);
    }

    @Sentence(promise = 27, words = "BAD: the SHEETS")
    void promise27_bad() {
        copyIs(-2, -1, 0, 1, 0, 1);
        copyIs(-2, 3, 0, 1, 0, 1);
        copyIs(-2, 0, 0, -1, 0, 1);
        copyIs(-2, 0, 0, 3, 0, 1);
        for (int far : FAR) {
            copyIs(-2, far, 0, 1, 0, 1);
            copyIs(-2, 0, 0, far, 0, 1);
        }
        // ahead of NULL, ahead of INDEX
        copyIs(-2, 2, 0, 3, 0, 1);
        copyIs(-2, 3, 0, 2, 0, 1);
        copyIs(-2, 0, -1, 3, 0, 1);
        copyIs(-2, 3, 0, 1, 0, -1);
    }

    @Sentence(promise = 27, words = "NULL: s, t")
    void promise27_null() {
        copyIs(-11, 2, 0, 0, 0, 1);
        copyIs(-11, 0, 0, 2, 0, 1);
        copyIs(-11, 2, 0, 2, 0, 0);
        // ahead of INDEX
        copyIs(-11, 0, -1, 2, 0, 1);
        copyIs(-11, 2, 0, 0, 9, 1);
        copyIs(-11, 2, 0, 0, 0, -1);
    }

    @Sentence(promise = 27, words = "INDEX: below 0")
    void promise27_indexBelow0() {
        copyIs(-12, 0, -1, 1, 0, 1);
        copyIs(-12, 0, 0, 1, -1, 1);
        copyIs(-12, 0, 0, 1, 0, -1);
        copyIs(-12, 0, -1, 1, 0, 0);
        copyIs(-12, 0, 0, 1, -1, 0);
        copyIs(-12, 0, 1, 1, 1, -1);
        copyIs(-12, 0, Integer.MIN_VALUE, 1, 0, 1);
        copyIs(-12, 0, 0, 1, Integer.MIN_VALUE, 1);
        copyIs(-12, 0, 0, 1, 0, Integer.MIN_VALUE);
        copyIs(-12, 0, Integer.MIN_VALUE, 1, Integer.MIN_VALUE, Integer.MIN_VALUE);
    }

    @Sentence(promise = 27, words = "not so many")
    void promise27_indexNotSoMany() {
        copyIs(-12, 0, 3, 1, 0, 3);
        copyIs(-12, 0, 5, 1, 0, 1);
        copyIs(-12, 0, 0, 1, 1, 3);
        copyIs(-12, 0, 0, 1, 0, 4);
        copyIs(-12, 1, 0, 0, 0, 4);
        copyIs(-12, 0, 0, 0, 0, 6);
        copyIs(-12, 0, 1, 0, 0, 5);
        copyIs(-12, 0, 0, 0, 1, 5);
        // sums that wrap around
        copyIs(-12, 0, 1, 1, 0, Integer.MAX_VALUE);
        copyIs(-12, 0, Integer.MAX_VALUE, 1, 0, 1);
        copyIs(-12, 0, 0, 1, Integer.MAX_VALUE, 1);
        copyIs(-12, 0, Integer.MAX_VALUE, 1, Integer.MAX_VALUE, Integer.MAX_VALUE);
    }

    @Sentence(promise = 27, words = "(with n 0, too, if i or j is above how many there are).")
    void promise27_noneIsCopiedUpToTheEnds() {
        copyIs(1, 0, 5, 1, 3, 0);
        copyIs(1, 0, 0, 1, 0, 0);
        copyIs(-12, 0, 6, 1, 0, 0);
        copyIs(-12, 0, 0, 1, 4, 0);
        copyIs(-12, 0, Integer.MAX_VALUE, 1, 0, 0);
        copyIs(-12, 0, 0, 1, Integer.MAX_VALUE, 0);
        LadderMaker x = rows();
        x.sheet(2, 0);
        due("of no items", x.copy(2, 0, 2, 0, 0), 1);
        due("of no items", x.copy(2, 1, 0, 0, 0), -12);
        due("of no items", x.copy(2, 0, 0, 0, 1), -12);
    }

    // ---- 28 write

    @Sentence(promise = 28, words = "element() 0 to 4 of ARMS, one behind another, come to a SHEET from item 0 on")
    void promise28_elementsOneBehindAnother() {
        LadderMaker x = rows();
        x.arm(1, 2, 3);
        x.arm(0, 0, 4);
        x.sheet(2, 12);
        x.lay(2, 10, 77);
        due("write(2)", x.write(2), 10);
        sheetIs("what is behind stays", x, 2, 1, 2, 1, 3, 1, 0, 0, 0, 4, 1, 77, 0);
        ladderIs("THE LADDER stays", x, 1, 2, 1, 3, 1, 0, 0, 0, 4, 1);
        x.back();
        due("one ARM", x.write(0), 5);
        sheetIs("just as many items", x, 0, 1, 2, 1, 3, 1);
    }

    @Sentence(promise = 28, words = "as many as there are items, and numbers: how many.")
    void promise28_asManyAsThereAreItems() {
        LadderMaker x = rows();
        x.arm(1, 2, 3);
        due("three items", x.write(1), 3);
        sheetIs("three items", x, 1, 1, 2, 1);
        x.sheet(1, 0);
        due("no items", x.write(1), 0);
        x.sheet(1, 1);
        due("one item", x.write(1), 1);
        sheetIs("one item", x, 1, 1);
    }

    @Sentence(promise = 28, words = "as many as there are items, and numbers: how many.")
    void promise28_asManyAsThereAreNumbers() {
        LadderMaker x = rows();
        due("no ARMS", x.write(0), 0);
        rowsStand(x);
        x.sheet(0, 40);
        for (int k = 0; k < 6; k++) x.arm(0, k + 1, 0);
        x.lay(0, 30, 77);
        due("six ARMS", x.write(0), 30);
        due("the last COIL", x.get(0, 26), 6);
        due("the last number", x.get(0, 29), 0);
        due("what is behind stays", x.get(0, 30), 77);
    }

    @Sentence(promise = 28, words = "BAD; NULL.")
    void promise28_badAndNull() {
        LadderMaker x = rows();
        x.arm(1, 2, 3);
        due("write(-1)", x.write(-1), -2);
        due("write(3)", x.write(3), -2);
        for (int far : FAR) due("write(" + far + ")", x.write(far), -2);
        due("count(8)", x.count(8), 0);
        due("write(2)", x.write(2), -11);
        due("count(8)", x.count(8), 1);
        rowsStand(x);
    }
}
