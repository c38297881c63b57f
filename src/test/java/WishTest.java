/** Promises 1 to 8: the wish. */
public final class WishTest extends SentenceRunner {
    public static void main(String[] args) throws Exception {
        new WishTest().runAll();
    }

    // ---- 1 a new object

    @Sentence(promise = 1, words = "THE WISH is 0 by 0")
    void promise01_theWishIs0By0() {
        wishIs("new", new LadderMaker(), ZERO, ZERO);
        due("info(0)", new LadderMaker().info(0), -1);
    }

    @Sentence(promise = 1, words = "no ARMS")
    void promise01_noArms() {
        LadderMaker x = new LadderMaker();
        ladderIs("new", x);
        billIs("new", x);
        foldIs("new", x, ZERO, ZERO);
        due("count(1)", x.count(1), 0);
        due("back()", x.back(), -3);
    }

    @Sentence(promise = 1, words = "THE MEMORY is empty")
    void promise01_theMemoryIsEmpty() {
        LadderMaker x = new LadderMaker();
        due("find(), though THE WISH is 0 by 0", x.find(), -1);
        due("kept(0, 0)", x.kept(0, 0), LEAST_INT);
        due("recall(0)", x.recall(0), -2);
        due("count(4)", x.count(4), 0);
        due("count(5)", x.count(5), 0);
    }

    @Sentence(promise = 1, words = "all SHEETS are LOST.")
    void promise01_allSheetsAreLost() {
        LadderMaker x = new LadderMaker();
        due("count(7)", x.count(7), 0);
        due("count(8)", x.count(8), 0);
        for (int s = 0; s <= 2; s++) {
            due("lose(" + s + ")", x.lose(s), -11);
        }
    }

    @Sentence(promise = 1, words = "THE WISH is 0 by 0; no ARMS; THE MEMORY is empty; all SHEETS are LOST.")
    void promise01_anotherObjectIsNotTouched() {
        LadderMaker x = ladder(0, 1, 1);
        tellWish(x, row(1), row(0, 1));
        x.keep();
        x.sheet(0, 3);
        LadderMaker y = new LadderMaker();
        due("digest()", y.digest(), new LadderMaker().digest());
        due("count(0)", y.count(0), 0);
        due("count(4)", y.count(4), 0);
        due("count(7)", y.count(7), 0);
    }

    // ---- 2 tell

    @Sentence(promise = 2, words = "The number of a power (0 to 6) of ABOVE (which = 0), BELOW (1): what it was.")
    void promise02_answersWhatItWas() {
        LadderMaker x = new LadderMaker();
        for (int which = 0; which <= 1; which++) {
            for (int power = 0; power <= 6; power++) {
                due("first", x.tell(which, power, power + which), 0);
                due("again", x.tell(which, power, power - 9 + 9 * which), power + which);
            }
        }
        wishIs("told", x, row(-9, -8, -7, -6, -5, -4, -3), row(0, 1, 2, 3, 4, 5, 6));
        due("the greatest number", x.tell(0, 6, 9), -3);
        due("the least", x.tell(0, 6, -9), 9);
        due("the same again", x.tell(0, 6, -9), -9);
        due("0 again", x.tell(0, 6, 0), -9);
        due("count(8)", x.count(8), 0);
    }

    private void tellIsBad(int which, int power, int v) {
        LadderMaker x = wish(row(1, 2, 3, 4, 5, 6, 7), row(-1, -2, -3, -4, -5, -6, -7));
        due("tell(" + which + ", " + power + ", " + v + ")", x.tell(which, power, v), LEAST_INT);
        wishIs("refused", x, row(1, 2, 3, 4, 5, 6, 7), row(-1, -2, -3, -4, -5, -6, -7));
    }

    @Sentence(promise = 2, words = "BAD: the least int.")
    void promise02_badWhich() {
        tellIsBad(-1, 0, 1);
        tellIsBad(2, 0, 1);
        for (int far : FAR) tellIsBad(far, 0, 1);
    }

    @Sentence(promise = 2, words = "BAD: the least int.")
    void promise02_badPower() {
        for (int which = 0; which <= 1; which++) {
            tellIsBad(which, -1, 0);
            tellIsBad(which, 7, 0);
            for (int far : FAR) tellIsBad(which, far, 0);
        }
    }

    @Sentence(promise = 2, words = "BAD: the least int.")
    void promise02_badNumber() {
        for (int which = 0; which <= 1; which++) {
            tellIsBad(which, 0, 10);
            tellIsBad(which, 6, -10);
            for (int far : FAR) tellIsBad(which, 3, far);
        }
    }

    // ---- 3 told

    @Sentence(promise = 3, words = "The number of a power of ABOVE (which = 0), BELOW (1).")
    void promise03_told() {
        LadderMaker x = wish(row(1, 2, 3, 4, 5, 6, 7), row(-1, -2, -3, -4, -5, -6, -7));
        for (int power = 0; power <= 6; power++) {
            due("told(0, " + power + ")", x.told(0, power), power + 1);
            due("told(1, " + power + ")", x.told(1, power), -power - 1);
        }
    }

    @Sentence(promise = 3, words = "BAD: the least int.")
    void promise03_bad() {
        LadderMaker x = wish(row(1, 2, 3, 4, 5, 6, 7), row(-1, -2, -3, -4, -5, -6, -7));
        due("told(-1, 0)", x.told(-1, 0), LEAST_INT);
        due("told(2, 0)", x.told(2, 0), LEAST_INT);
        for (int which = 0; which <= 1; which++) {
            due("power -1", x.told(which, -1), LEAST_INT);
            due("power 7", x.told(which, 7), LEAST_INT);
            for (int far : FAR) due("power " + far, x.told(which, far), LEAST_INT);
        }
        for (int far : FAR) due("which " + far, x.told(far, 0), LEAST_INT);
    }

    // ---- 4 turn

    @Sentence(promise = 4, words = "ABOVE and BELOW change places")
    void promise04_changePlaces() {
        LadderMaker x = wish(row(1, 2, 3, 4, 5, 6, 7), row(-1, -2, -3, -4, -5, -6, -7));
        x.turn();
        wishIs("turned", x, row(-1, -2, -3, -4, -5, -6, -7), row(1, 2, 3, 4, 5, 6, 7));
        x.turn();
        wishIs("turned back", x, row(1, 2, 3, 4, 5, 6, 7), row(-1, -2, -3, -4, -5, -6, -7));
    }

    @Sentence(promise = 4, words = "whether THE WISH is LAWFUL (1, 0).")
    void promise04_whetherLawful() {
        due("0 by 0", new LadderMaker().turn(), 0);
        due("EVEN by ODD", wish(row(1, 0, 2), row(0, 3)).turn(), 1);
        due("ODD by EVEN", wish(row(0, 3), row(1, 0, 2)).turn(), 1);
        due("neither", wish(row(1, 0, 2), row(1, 3)).turn(), 0);
        due("EVEN by 0", wish(row(1), ZERO).turn(), 0);
    }

    // ---- 5 reverse

    private void reverses(int answer, int[] above, int[] below, int[] newAbove, int[] newBelow) {
        LadderMaker x = wish(above, below);
        due("reverse()", x.reverse(), answer);
        wishIs("reversed", x, newAbove, newBelow);
    }

    @Sentence(promise = 5, words = "Powers of both run backwards, from the greatest that either has down (p becomes that less p): that power.")
    void promise05_fromTheGreatestThatEitherHas() {
        reverses(2, row(2, 3), row(0, 0, 5), row(0, 3, 2), row(5));
        reverses(2, row(0, 0, 5), row(2, 3), row(5), row(0, 3, 2));
        reverses(5, row(0, 1, 0, 0, 0, 2), row(3), row(2, 0, 0, 0, 1), row(0, 0, 0, 0, 0, 3));
        reverses(6, row(1, 2, 3, 4, 5, 6, 7), row(-1), row(7, 6, 5, 4, 3, 2, 1), row(0, 0, 0, 0, 0, 0, -1));
        reverses(6, row(1), row(0, 0, 0, 0, 0, 0, 9), row(0, 0, 0, 0, 0, 0, 1), row(9));
    }

    @Sentence(promise = 5, words = "Powers of both run backwards, from the greatest that either has down (p becomes that less p): that power.")
    void promise05_ofANumberAloneNothingChanges() {
        reverses(0, row(4), row(-4), row(4), row(-4));
        reverses(0, row(4), ZERO, row(4), ZERO);
        reverses(0, ZERO, row(4), ZERO, row(4));
    }

    @Sentence(promise = 5, words = "Powers of both run backwards, from the greatest that either has down (p becomes that less p): that power.")
    void promise05_withOneOfThem0() {
        reverses(3, ZERO, row(1, 2, 0, 4), ZERO, row(4, 0, 2, 1));
        reverses(3, row(1, 2, 0, 4), ZERO, row(4, 0, 2, 1), ZERO);
    }

    @Sentence(promise = 5, words = "NOT: both are 0.")
    void promise05_notIfBothAre0() {
        reverses(-3, ZERO, ZERO, ZERO, ZERO);
        reverses(6, ZERO, row(0, 0, 0, 0, 0, 0, 1), ZERO, row(1));
    }

    // ---- 6 read

    /** SHEET 1 has 16 items, -8 to 7; THE WISH is 9 by 9. */
    private static LadderMaker withSheet() {
        LadderMaker x = wish(row(9), row(9));
        x.sheet(1, 16);
        for (int i = 0; i < 16; i++) x.lay(1, i, i - 8);
        return x;
    }

    @Sentence(promise = 6, words = "THE WISH by a SHEET: from item i on the numbers of powers 0 to 6 of ABOVE, then of BELOW: 14.")
    void promise06_reads14Items() {
        LadderMaker x = withSheet();
        due("from the first", x.read(1, 0), 14);
        wishIs("read", x, row(-8, -7, -6, -5, -4, -3, -2), row(-1, 0, 1, 2, 3, 4, 5));
        due("to the last", x.read(1, 2), 14);
        wishIs("read", x, row(-6, -5, -4, -3, -2, -1, 0), row(1, 2, 3, 4, 5, 6, 7));
        x.sheet(1, 14);
        due("just 14 items", x.read(1, 0), 14);
        wishIs("read", x, ZERO, ZERO);
        due("count(8)", x.count(8), 0);
    }

    @Sentence(promise = 6, words = "BAD: the SHEET")
    void promise06_badSheet() {
        LadderMaker x = withSheet();
        due("read(-1, 0)", x.read(-1, 0), -2);
        due("read(3, 0)", x.read(3, 0), -2);
        due("ahead of INDEX", x.read(3, -1), -2);
        for (int far : FAR) due("read(" + far + ", 0)", x.read(far, 0), -2);
        wishIs("refused", x, row(9), row(9));
        due("count(8)", x.count(8), 0);
    }

    @Sentence(promise = 6, words = "a number that is not as told")
    void promise06_badNumber() {
        int[] bad = { 10, -10, 1000, Integer.MAX_VALUE, Integer.MIN_VALUE };
        for (int v : bad) {
            for (int i = 1; i <= 14; i++) {
                LadderMaker x = withSheet();
                x.lay(1, i, v);
                due(v + " at " + i, x.read(1, 1), -2);
                due("nothing is read", x.told(0, 0), 9);
                due("nothing is read", x.told(0, 1), 0);
                due("count(8)", x.count(8), 0);
            }
        }
    }

    @Sentence(promise = 6, words = "a number that is not as told")
    void promise06_numbersBesideThe14AreNotLookedAt() {
        LadderMaker x = withSheet();
        x.lay(1, 0, 10);
        x.lay(1, 15, -10);
        x.lay(1, 1, 9);
        x.lay(1, 14, -9);
        due("read(1, 1)", x.read(1, 1), 14);
        wishIs("read", x, row(9, -6, -5, -4, -3, -2, -1), row(0, 1, 2, 3, 4, 5, -9));
    }

    @Sentence(promise = 6, words = "NULL")
    void promise06_null() {
        LadderMaker x = withSheet();
        due("read(0, 0)", x.read(0, 0), -11);
        due("count(8)", x.count(8), 1);
        due("ahead of INDEX", x.read(2, -1), -11);
        wishIs("refused", x, row(9), row(9));
    }

    @Sentence(promise = 6, words = "INDEX (ahead of BAD numbers).")
    void promise06_index() {
        LadderMaker x = withSheet();
        due("13 are left", x.read(1, 3), -12);
        due("count(8)", x.count(8), 2);
        due("read(1, -1)", x.read(1, -1), -12);
        due("read(1, 16)", x.read(1, 16), -12);
        for (int far : FAR) due("read(1, " + far + ")", x.read(1, far), -12);
        x.sheet(0, 13);
        due("13 items", x.read(0, 0), -12);
        x.sheet(0, 0);
        due("no items", x.read(0, 0), -12);
        wishIs("refused", x, row(9), row(9));
    }

    @Sentence(promise = 6, words = "INDEX (ahead of BAD numbers).")
    void promise06_indexAheadOfBadNumbers() {
        LadderMaker x = withSheet();
        x.lay(1, 5, 10);
        due("read(1, 3)", x.read(1, 3), -12);
        due("read(1, -1)", x.read(1, -1), -12);
        due("read(1, 2)", x.read(1, 2), -2);
        due("count(8)", x.count(8), 2);
    }

    // ---- 7 info

    private void infoIs(int[] above, int[] below, int... want) {
        LadderMaker x = wish(above, below);
        for (int what = 0; what <= 4; what++) {
            due("info(" + what + ")", x.info(what), want[what]);
        }
    }

    @Sentence(promise = 7, words = "Degree of ABOVE (what = 0; NONE: it is 0), of BELOW (1; NONE)")
    void promise07_degrees() {
        infoIs(ZERO, ZERO, -1, -1, 0, -1, -1);
        infoIs(row(1), ZERO, 0, -1, 0, 0, -1);
        infoIs(ZERO, row(1), -1, 0, 0, -1, 0);
        infoIs(row(1, 0, 0, 0, 0, 0, -1), row(0, 3), 6, 1, 1, 0, 1);
        infoIs(row(0, 3), row(1, 0, 0, 0, 0, 0, -1), 1, 6, 1, 1, 0);
    }

    @Sentence(promise = 7, words = "whether it is LAWFUL (2: 1, 0)")
    void promise07_lawful() {
        infoIs(row(0, 0, 2, 0, 1), row(0, 3, 0, 0, 0, -1), 4, 5, 1, 2, 1);
        infoIs(row(1, 1), row(1), 1, 0, 0, 0, 0);
        infoIs(row(1), row(0, 0, 1), 0, 2, 0, 0, 2);
    }

    @Sentence(promise = 7, words = "the least power of ABOVE (3; NONE), of BELOW (4; NONE).")
    void promise07_leastPowers() {
        infoIs(row(0, 0, 0, 0, 0, 0, 1), row(0, 0, 0, 0, 0, 1, 1), 6, 6, 0, 6, 5);
        infoIs(row(0, -1, 1), row(-1, 1), 2, 1, 0, 1, 0);
        infoIs(ZERO, row(0, 1), -1, 1, 0, -1, 1);
    }

    @Sentence(promise = 7, words = "BAD: -9.")
    void promise07_bad() {
        LadderMaker x = wish(row(1), row(0, 1));
        due("info(-1)", x.info(-1), -9);
        due("info(5)", x.info(5), -9);
        for (int far : FAR) due("info(" + far + ")", x.info(far), -9);
    }

    // ---- 8 reactance

    @Sentence(promise = 8, words = "REACTANCE at n by d (1 to 9 each)")
    void promise08_at1By9To9By1() {
        LadderMaker x = wish(row(0, 1), row(1));
        for (int n = 1; n <= 9; n++) {
            due("at " + n, x.reactance(n, 1, 0), n);
            due("at 1 by " + n, x.reactance(1, n, 1), n);
            due("at " + n + " by " + n, x.reactance(n, n, 0), 1);
        }
    }

    @Sentence(promise = 8, words = "above (what = 0), below (1), in lowest terms.")
    void promise08_inLowestTerms() {
        LadderMaker x = wish(row(0, 2), row(4));
        due("3 by 4, above", x.reactance(3, 2, 0), 3);
        due("3 by 4, below", x.reactance(3, 2, 1), 4);
        tellWish(x, row(4), row(0, 6));
        due("- 1 by 9, above", x.reactance(6, 1, 0), -1);
        due("- 1 by 9, below", x.reactance(6, 1, 1), 9);
        tellWish(x, row(4, 0, 1), row(0, 1));
        due("0, above", x.reactance(2, 1, 0), 0);
        due("0, below", x.reactance(2, 1, 1), 1);
        due("at 4 by 2, too", x.reactance(4, 2, 1), 1);
        tellWish(x, row(0, 9, 0, 9, 0, 9), row(9, 0, 9, 0, 9, 0, 9));
        // 3 by 4 times 193 by 256, by 2359 by 4096
        due("2316 by 2359, above", x.reactance(3, 4, 0), 2316);
        due("2316 by 2359, below", x.reactance(3, 4, 1), 2359);
    }

    @Sentence(promise = 8, words = "BAD; NOT: THE WISH is not LAWFUL")
    void promise08_bad() {
        LadderMaker x = wish(row(0, 1), row(1));
        int[][] bad = { { 0, 1, 0 }, { 10, 1, 0 }, { 1, 0, 0 }, { 1, 10, 0 }, { 1, 1, -1 }, { 1, 1, 2 }, { -1, -1, 0 } };
        for (int[] b : bad) due("reactance not as told", x.reactance(b[0], b[1], b[2]), refusal(-2));
        for (int far : FAR) {
            due("n " + far, x.reactance(far, 1, 0), refusal(-2));
            due("d " + far, x.reactance(1, far, 0), refusal(-2));
            due("what " + far, x.reactance(1, 1, far), refusal(-2));
        }
        LadderMaker y = new LadderMaker();
        due("BAD ahead of NOT", y.reactance(0, 1, 0), refusal(-2));
        due("BAD ahead of NOT", y.reactance(1, 1, 2), refusal(-2));
    }

    @Sentence(promise = 8, words = "BAD; NOT: THE WISH is not LAWFUL")
    void promise08_notIfNotLawful() {
        for (int what = 0; what <= 1; what++) {
            due("0 by 0", new LadderMaker().reactance(1, 1, what), refusal(-3));
            due("both ODD", wish(row(0, 1), row(0, 1)).reactance(1, 1, what), refusal(-3));
            due("neither", wish(row(1, 1), row(1)).reactance(1, 1, what), refusal(-3));
            due("by 0", wish(row(0, 1), ZERO).reactance(1, 1, what), refusal(-3));
            due("0 by 1", wish(ZERO, row(1)).reactance(1, 1, what), refusal(-3));
        }
    }

    @Sentence(promise = 8, words = "there is none.")
    void promise08_notIfThereIsNone() {
        LadderMaker x = wish(row(0, 1), row(4, 0, 1));
        for (int what = 0; what <= 1; what++) {
            due("at 2", x.reactance(2, 1, what), refusal(-3));
            due("at 8 by 4", x.reactance(8, 4, what), refusal(-3));
        }
        due("at 1", x.reactance(1, 1, 1), 3);
    }
}
