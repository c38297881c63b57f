import java.math.BigInteger;
import java.util.ArrayList;
import java.util.List;

/** Promises 29 and 30. */
public final class CountAndDigestTest extends SentenceRunner {
    private static final long NOT = refusal(-3);

    public static void main(String[] args) throws Exception {
        new CountAndDigestTest().runAll();
    }

    /**
     * THE WISH is (1 and 2 s s) by 2 s; behind the SHUNT ARM, COIL 1 and CAPACITOR 2, which is that,
     * stands a SERIES COIL 2.
     */
    private static LadderMaker full() {
        LadderMaker x = wish(row(1, 0, 2), row(0, 2));
        x.unfold(3);
        x.arm(0, 2, 0);
        x.keep();
        x.keep();
        x.turn();
        x.keep();
        x.turn();
        x.sheet(1, 4);
        return x;
    }

    // ---- 29 count

    @Sentence(promise = 29, words = "0 ARMS, 1 VALUES in them")
    void promise29_armsAndValues() {
        LadderMaker x = new LadderMaker();
        due("count(0) of none", x.count(0), 0);
        due("count(1) of none", x.count(1), 0);
        for (int k = 1; k <= 3; k++) {
            x.arm(k % 2, k, k);
            due("count(0)", x.count(0), k);
            due("count(1)", x.count(1), 2 * k);
        }
        x.arm(0, 1, 0);
        due("count(0) after FULL", x.count(0), 3);
        due("count(1) after FULL", x.count(1), 6);
        x.back();
        x.arm(0, 0, 1);
        due("count(0)", x.count(0), 3);
        due("count(1)", x.count(1), 5);
        tellWish(x, row(0, 1), row(1, 0, 1));
        x.unfold(2);
        due("count(0) of what is UNFOLDED", x.count(0), 1);
        due("count(1) of what is UNFOLDED", x.count(1), 2);
    }

    @Sentence(promise = 29, words = "2 whether THE WISH is LAWFUL (1, 0)")
    void promise29_lawful() {
        due("0 by 0", new LadderMaker().count(2), 0);
        due("EVEN by ODD", wish(row(1), row(0, 1)).count(2), 1);
        due("EVEN by EVEN", wish(row(1), row(0, 0, 1)).count(2), 0);
    }

    @Sentence(promise = 29, words = "3 PARTS of the BILL")
    void promise29_parts() {
        due("none", new LadderMaker().count(3), 0);
        due("the same PART twice", ladder(0, 3, 0, 1, 3, 0).count(3), 1);
        due("COIL and CAPACITOR of one VALUE", ladder(0, 3, 3).count(3), 2);
        due("six", ladder(0, 1, 2, 1, 3, 4, 0, 5, 6).count(3), 6);
    }

    @Sentence(promise = 29, words = "4 FRACTIONS in THE MEMORY, 5 how often all of them were kept")
    void promise29_memory() {
        LadderMaker x = full();
        due("count(4)", x.count(4), 2);
        due("count(5)", x.count(5), 3);
        x.recall(1);
        due("count(5) after recall()", x.count(5), 3);
    }

    @Sentence(promise = 29, words = "6 alike()")
    void promise29_alike() {
        LadderMaker x = full();
        due("another", x.count(6), 0);
        x.back();
        due("ALIKE", x.count(6), 1);
        x.back();
        due("no ARMS", x.count(6), -3);
    }

    @Sentence(promise = 29, words = "7 SHEETS that are not LOST")
    void promise29_sheets() {
        LadderMaker x = new LadderMaker();
        for (int s = 0; s <= 2; s++) {
            due("count(7)", x.count(7), s);
            x.sheet(s, 0);
        }
        due("count(7)", x.count(7), 3);
        x.sheet(1, 5);
        due("count(7)", x.count(7), 3);
        x.lose(1);
        due("count(7)", x.count(7), 2);
    }

    @Sentence(promise = 29, words = "8 the number of the latest FINDING (0 before any).")
    void promise29_latestFinding() {
        LadderMaker x = full();
        due("before any", x.count(8), 0);
        x.get(0, 0);
        due("NULL", x.count(8), 1);
        x.get(1, 4);
        due("INDEX", x.count(8), 2);
        x.sheet(1, -1);
        due("SIZE", x.count(8), 3);
        x.get(7, 7);
        x.unfold(9);
        x.get(1, 0);
        due("it stays after BAD, and after what is done", x.count(8), 3);
        x.lose(0);
        due("NULL again", x.count(8), 1);
    }

    @Sentence(promise = 29, words = "BAD.")
    void promise29_bad() {
        LadderMaker x = full();
        due("count(-1)", x.count(-1), -2);
        due("count(9)", x.count(9), -2);
        for (int far : FAR) due("count(" + far + ")", x.count(far), -2);
    }

    // ---- 30 digest

    private static long over(long... numbers) {
        long h = 17;
        for (long n : numbers) h = 31 * h + n;
        return h;
    }

    @Sentence(promise = 30, words = "h is 17; h becomes 31 h and each of")
    void promise30_ofANewObject() {
        long want = over(0, 0, 0, 0, 0, 0, -3, 0,
            0, 0, 0, 0, 0, 0, 0, 0, 0, 0, 0, 0, 0, 0, 0, 0, 0, 0, 0, 0, 0, 0, 0, 0, 0, 0, 0, 0,
            -1, -1, 0, -1, -1, -3, -3, -3, -3, NOT, NOT, NOT, NOT, 0, -1);
        due("digest()", new LadderMaker().digest(), want);
    }

    @Sentence(promise = 30, words = "(of each thing all that is told of it, then of the next one): count() 0 to 7; of powers told(0, it), told(1, it), fold(0, it), fold(1, it); "
        + "info() 0 to 4; would() 0 to 3; reactance(1, 1, 0 and 1), reactance(3, 2, 0 and 1); of ARMS element() 0 to 4; of PARTS bill() 0 to 3; values(); find(); "
        + "of THE MEMORY kept() 0 to 14")
    void promise30_inItsOrder() {
        long want = over(2, 3, 1, 3, 2, 3, 0, 1,
            1, 0, 0, 1, 0, 2, 2, 0, 2, 0, 0, 6, 0, 0, 4, 0, 0, 0, 0, 0, 0, 0, 0, 0, 0, 0, 0, 0,
            2, 1, 1, 0, 1, 2, 2, 2, 2, 1, 2, 7, 6,
            1, 1, 1, 2, 1, 0, 2, 1, 0, 0,
            0, 1, 1, 1, 1, 2, 1, 1, 0, 2, 1, 1,
            2, 0,
            2, 1, 0, 2, 0, 0, 0, 0, 0, 2, 0, 0, 0, 0, 0,
            1, 0, 2, 0, 0, 0, 0, 0, 1, 0, 2, 0, 0, 0, 0);
        LadderMaker x = full();
        due("digest()", x.digest(), want);
        due("digest() again", x.digest(), want);
    }

    @Sentence(promise = 30, words = "count() 0 to 7")
    void promise30_leavesOutTheFindingAndItems() {
        LadderMaker x = full();
        long want = x.digest();
        x.get(0, 0);
        due("a FINDING", x.digest(), want);
        x.lay(1, 0, 9);
        due("an item", x.digest(), want);
        x.lose(1);
        isTrue("a SHEET that is LOST", x.digest() != want);
    }

    /** All that digest() takes in, in its order, as the object itself tells it. */
    private static List<Long> taken(LadderMaker x) {
        List<Long> all = new ArrayList<>();
        for (int what = 0; what <= 7; what++) all.add((long) x.count(what));
        for (int power = 0; power <= 6; power++) {
            all.add((long) x.told(0, power));
            all.add((long) x.told(1, power));
            all.add(x.fold(0, power));
            all.add(x.fold(1, power));
        }
        for (int what = 0; what <= 4; what++) all.add((long) x.info(what));
        for (int way = 0; way <= 3; way++) all.add((long) x.would(way));
        for (int what = 0; what <= 1; what++) all.add(x.reactance(1, 1, what));
        for (int what = 0; what <= 1; what++) all.add(x.reactance(3, 2, what));
        for (int k = 0; k < x.count(0); k++) for (int what = 0; what <= 4; what++) all.add((long) x.element(k, what));
        for (int k = 0; k < x.count(3); k++) for (int what = 0; what <= 3; what++) all.add((long) x.bill(k, what));
        all.add((long) x.values());
        all.add((long) x.find());
        for (int k = 0; k < x.count(4); k++) for (int what = 0; what <= 14; what++) all.add((long) x.kept(k, what));
        return all;
    }

    private void digestIsOfWhatIsTold(LadderMaker x) {
        long h = 17;
        for (long n : taken(x)) h = 31 * h + n;
        due("digest()", x.digest(), h);
    }

    @Sentence(promise = 30, words = "reactance(1, 1, 0 and 1), reactance(3, 2, 0 and 1)")
    void promise30_ofReactances() {
        digestIsOfWhatIsTold(wish(row(1, 0, 3), row(0, 5, 0, 7)));
        digestIsOfWhatIsTold(wish(row(0, 5, 0, 7, 0, 9), row(2, 0, 8, 0, 0, 0, -1)));
        // none at 1, none at 3 by 2
        digestIsOfWhatIsTold(wish(row(0, 1), row(1, 0, 1)));
        digestIsOfWhatIsTold(wish(row(0, 1), row(9, 0, 4)));
    }

    @Sentence(promise = 30, words = "as longs that wrap.")
    void promise30_wraps() {
        LadderMaker x = full();
        x.arm(1, 9, 8);
        BigInteger h = BigInteger.valueOf(17);
        for (long n : taken(x)) h = h.multiply(BigInteger.valueOf(31)).add(BigInteger.valueOf(n));
        isTrue("far more than a long holds", h.bitLength() > 300);
        due("the low 64 bits of it", x.digest(), h.longValue());
    }

    @Sentence(promise = 30, words = "of THE MEMORY kept() 0 to 14")
    void promise30_ofTwelveFractions() {
        LadderMaker x = ladder(0, 1, 2, 1, 3, 4, 0, 5, 6);
        for (int k = 0; k < 12; k++) {
            x.tell(0, 0, k % 9 + 1);
            x.tell(0, 2, 1 + k / 9);
            x.tell(1, 1, 1);
            x.keep();
        }
        digestIsOfWhatIsTold(x);
    }
}
