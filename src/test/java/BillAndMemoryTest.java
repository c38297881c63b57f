/** Promises 17 to 22: the bill, the memory. Their terms have tests in TermsTest, too. */
public final class BillAndMemoryTest extends SentenceRunner {
    public static void main(String[] args) throws Exception {
        new BillAndMemoryTest().runAll();
    }

    // ---- 17 bill

    @Sentence(promise = 17, words = "Of the k-th PART of the BILL its kind (what = 0: 0 COIL, 1 CAPACITOR), VALUE above (1), below (2), how many (3).")
    void promise17_bill() {
        LadderMaker x = ladder(0, 2, 3, 1, 2, 2, 0, 0, 3);
        billIs("told", x, 0, 2, 1, 2, 1, 3, 1, 2, 1, 2, 1, 1);
        x.back();
        billIs("one less", x, 0, 2, 1, 2, 1, 3, 1, 1, 1, 2, 1, 1);
        tellWish(x, row(3, 0, 4, 0, 1), row(0, 2, 0, 1));
        x.unfold(3);
        billIs("COIL 2 twice, CAPACITORS 1 by 2 and 1 by 6", x, 0, 2, 1, 2, 1, 1, 2, 1, 1, 1, 6, 1);
    }

    @Sentence(promise = 17, words = "BAD.")
    void promise17_bad() {
        LadderMaker x = ladder(0, 2, 3, 1, 2, 2);
        int[][] bad = { { -1, 0 }, { 3, 0 }, { 0, -1 }, { 0, 4 }, { 2, 4 }, { 3, 3 } };
        for (int[] b : bad) due("bill(" + b[0] + ", " + b[1] + ")", x.bill(b[0], b[1]), -2);
        for (int far : FAR) {
            due("bill(" + far + ", 0)", x.bill(far, 0), -2);
            due("bill(0, " + far + ")", x.bill(0, far), -2);
        }
        due("no PARTS", new LadderMaker().bill(0, 0), -2);
        LadderMaker six = ladder(0, 1, 2, 1, 3, 4, 0, 5, 6);
        due("bill(5, 1)", six.bill(5, 1), 6);
        due("bill(6, 1)", six.bill(6, 1), -2);
        six.back();
        due("a PART that is gone", six.bill(5, 1), -2);
        due("of two ARMS", six.bill(4, 1), -2);
    }

    // ---- 18 values

    @Sentence(promise = 18, words = "How many different VALUES there are in THE LADDER, whatever their kind.")
    void promise18_whateverTheirKind() {
        due("none", new LadderMaker().values(), 0);
        due("one", ladder(0, 9, 0).values(), 1);
        due("COIL and CAPACITOR of one VALUE", ladder(0, 4, 4).values(), 1);
        due("six of one VALUE", ladder(0, 4, 4, 1, 4, 4, 0, 4, 4).values(), 1);
        due("two", ladder(0, 2, 3, 1, 3, 2, 0, 0, 3).values(), 2);
        due("six", ladder(0, 1, 2, 1, 3, 4, 0, 5, 6).values(), 6);
    }

    @Sentence(promise = 18, words = "How many different VALUES there are in THE LADDER, whatever their kind.")
    void promise18_fractionsApart() {
        LadderMaker x = wish(row(3, 0, 4, 0, 1), row(0, 2, 0, 1));
        x.unfold(2);
        due("1, 2 by 3, 1 by 4, 2", x.values(), 4);
        tellWish(x, row(0, 2), row(1, 0, 4));
        x.unfold(2);
        due("COIL 2, CAPACITOR 2", x.values(), 1);
        tellWish(x, row(0, 1), row(2, 0, 4));
        x.unfold(2);
        due("COIL 1 by 2, CAPACITOR 4", x.values(), 2);
        tellWish(x, row(2, 0, 2), row(0, 1));
        x.unfold(2);
        due("COIL 2, CAPACITOR 1 by 2", x.values(), 2);
    }

    // ---- 19 keep

    /** THE WISH is one of twelve different ones. */
    private static void tellOfTwelve(LadderMaker x, int k) {
        tellWish(x, row(k % 9 + 1, 1 + k / 9), row(0, 0, 0, 0, 0, 0, 1));
    }

    private static LadderMaker withTwelve() {
        LadderMaker x = new LadderMaker();
        for (int k = 0; k < 12; k++) {
            tellOfTwelve(x, k);
            x.keep();
        }
        return x;
    }

    @Sentence(promise = 19, words = "THE WISH is kept: its number.")
    void promise19_itsNumber() {
        LadderMaker x = new LadderMaker();
        due("0 by 0", x.keep(), 0);
        tellWish(x, row(0, 1), row(1));
        due("another", x.keep(), 1);
        due("again", x.keep(), 1);
        tellWish(x, row(0, -9), row(-9));
        due("the same AS A PAIR", x.keep(), 1);
        tellWish(x, row(1), ZERO);
        due("1 by 0", x.keep(), 2);
        due("kept(0, 0)", x.kept(0, 0), 1);
        due("kept(1, 0)", x.kept(1, 0), 3);
        due("kept(2, 0)", x.kept(2, 0), 1);
    }

    @Sentence(promise = 19, words = "FULL: there are 12 others.")
    void promise19_full() {
        LadderMaker x = withTwelve();
        due("the twelfth again", x.keep(), 11);
        tellWish(x, row(1), row(0, 1));
        due("a thirteenth", x.keep(), -4);
        due("find()", x.find(), -1);
        due("count(4)", x.count(4), 12);
        due("count(5)", x.count(5), 13);
        wishIs("refused", x, row(1), row(0, 1));
        tellOfTwelve(x, 0);
        due("the first again", x.keep(), 0);
        due("kept(0, 0)", x.kept(0, 0), 2);
        due("kept(11, 0)", x.kept(11, 0), 2);
        due("count(5)", x.count(5), 14);
    }

    @Sentence(promise = 19, words = "FULL: there are 12 others.")
    void promise19_notFullWith11Others() {
        LadderMaker x = new LadderMaker();
        for (int k = 0; k < 11; k++) {
            tellOfTwelve(x, k);
            x.keep();
        }
        tellWish(x, row(1), row(0, 1));
        due("a twelfth", x.keep(), 11);
        tellOfTwelve(x, 11);
        due("a thirteenth", x.keep(), -4);
    }

    // ---- 20 find

    @Sentence(promise = 20, words = "The number of THE WISH in THE MEMORY; NONE: it is not there.")
    void promise20_find() {
        LadderMaker x = new LadderMaker();
        due("empty", x.find(), -1);
        tellWish(x, row(2), row(0, 4));
        due("empty", x.find(), -1);
        x.keep();
        tellWish(x, row(2), row(0, 5));
        x.keep();
        due("the second", x.find(), 1);
        tellWish(x, row(-3), row(0, -6));
        due("the first AS A PAIR", x.find(), 0);
        tellWish(x, row(3), row(0, -6));
        due("another sign", x.find(), -1);
        tellWish(x, row(0, 4), row(2));
        due("turned over", x.find(), -1);
        due("find() keeps nothing", x.count(4), 2);
        due("find() counts nothing", x.count(5), 2);
    }

    @Sentence(promise = 20, words = "The number of THE WISH in THE MEMORY; NONE: it is not there.")
    void promise20_allTwelve() {
        LadderMaker x = withTwelve();
        for (int k = 0; k < 12; k++) {
            tellOfTwelve(x, k);
            due("number " + k, x.find(), k);
        }
    }

    // ---- 21 kept

    @Sentence(promise = 21, words = "Of a FRACTION in THE MEMORY how often it was kept (what = 0), the number of power what less 1 of ABOVE (1 to 7), "
        + "of power what less 8 of BELOW (8 to 14).")
    void promise21_kept() {
        LadderMaker x = wish(row(1, 2, 3, 4, 5, 6, 7), row(-7, -6, -5, -4, -3, -2, 1));
        for (int i = 1; i <= 5; i++) {
            x.keep();
            due("how often", x.kept(0, 0), i);
        }
        keptIs("all powers", x, 0, row(1, 2, 3, 4, 5, 6, 7), row(-7, -6, -5, -4, -3, -2, 1));
    }

    @Sentence(promise = 21, words = "BAD: the least int.")
    void promise21_bad() {
        LadderMaker x = wish(row(1), row(0, 1));
        due("empty", x.kept(0, 0), LEAST_INT);
        x.keep();
        int[][] bad = { { -1, 0 }, { 1, 0 }, { 0, -1 }, { 0, 15 }, { 11, 0 }, { 12, 0 } };
        for (int[] b : bad) due("kept(" + b[0] + ", " + b[1] + ")", x.kept(b[0], b[1]), LEAST_INT);
        for (int far : FAR) {
            due("kept(" + far + ", 0)", x.kept(far, 0), LEAST_INT);
            due("kept(0, " + far + ")", x.kept(0, far), LEAST_INT);
        }
        LadderMaker full = withTwelve();
        due("kept(11, 14)", full.kept(11, 14), 1);
        due("kept(12, 14)", full.kept(12, 14), LEAST_INT);
    }

    // ---- 22 recall

    @Sentence(promise = 22, words = "THE WISH becomes a FRACTION of THE MEMORY: how often it was kept.")
    void promise22_recall() {
        LadderMaker x = wish(row(0, 2), row(-4, 0, -6));
        x.keep();
        x.keep();
        tellWish(x, row(1, 2, 3, 4, 5, 6, 7), row(7, 6, 5, 4, 3, 2, 1));
        x.keep();
        due("recall(0)", x.recall(0), 2);
        wishIs("AS A PAIR", x, row(0, -1), row(2, 0, 3));
        due("recall(1)", x.recall(1), 1);
        wishIs("all powers", x, row(1, 2, 3, 4, 5, 6, 7), row(7, 6, 5, 4, 3, 2, 1));
        due("recall() keeps nothing", x.count(5), 3);
        x.tell(0, 0, 9);
        due("THE MEMORY stays, if THE WISH is told anew", x.kept(1, 1), 1);
    }

    @Sentence(promise = 22, words = "BAD.")
    void promise22_bad() {
        LadderMaker x = wish(row(1), row(0, 1));
        due("empty", x.recall(0), -2);
        x.keep();
        x.tell(0, 0, 5);
        due("recall(-1)", x.recall(-1), -2);
        due("recall(1)", x.recall(1), -2);
        for (int far : FAR) due("recall(" + far + ")", x.recall(far), -2);
        wishIs("refused", x, row(5), row(0, 1));
        LadderMaker full = withTwelve();
        due("recall(12)", full.recall(12), -2);
        due("recall(11)", full.recall(11), 1);
    }
}
