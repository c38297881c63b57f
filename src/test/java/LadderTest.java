/** Promises 9 to 16: the ladder. What is UNFOLDED has its tests in UnfoldingTest, FOLDED and ALIKE in TermsTest, too. */
public final class LadderTest extends SentenceRunner {
    public static void main(String[] args) throws Exception {
        new LadderTest().runAll();
    }

    // ---- 9 arm

    @Sentence(promise = 9, words = "An ARM more, SERIES (place = 0), SHUNT (1), with a COIL, a CAPACITOR of whole VALUES (1 to 9; 0: without; not both 0): its number.")
    void promise09_anArmMore() {
        LadderMaker x = new LadderMaker();
        due("SERIES COIL, the greatest", x.arm(0, 9, 0), 0);
        due("SHUNT CAPACITOR, the least", x.arm(1, 0, 1), 1);
        due("SHUNT, both", x.arm(1, 1, 9), 2);
        due("SERIES CAPACITOR", x.arm(0, 0, 9), 3);
        ladderIs("told", x, 0, 9, 1, 0, 0, 1, 0, 0, 1, 1, 1, 1, 1, 9, 1, 0, 0, 0, 9, 1);
        due("count(1)", x.count(1), 5);
    }

    @Sentence(promise = 9, words = "BAD;")
    void promise09_bad() {
        LadderMaker x = ladder(0, 1, 0);
        int[][] bad = { { -1, 1, 1 }, { 2, 1, 1 }, { 0, -1, 1 }, { 0, 10, 1 }, { 1, 1, -1 }, { 1, 1, 10 } };
        for (int[] b : bad) due("arm not as told", x.arm(b[0], b[1], b[2]), -2);
        for (int far : FAR) {
            due("place " + far, x.arm(far, 1, 1), -2);
            due("coil " + far, x.arm(0, far, 0), -2);
            due("capacitor " + far, x.arm(1, 0, far), -2);
        }
        ladderIs("refused", x, 0, 1, 1, 0, 0);
    }

    @Sentence(promise = 9, words = "BAD;")
    void promise09_badIfBothAre0() {
        LadderMaker x = new LadderMaker();
        due("SERIES", x.arm(0, 0, 0), -2);
        due("SHUNT", x.arm(1, 0, 0), -2);
        ladderIs("refused", x);
    }

    @Sentence(promise = 9, words = "FULL: there would be more than 6 VALUES.")
    void promise09_full() {
        LadderMaker x = ladder(0, 1, 2, 1, 3, 4, 0, 5, 0);
        due("a sixth and a seventh VALUE", x.arm(1, 6, 7), -4);
        ladderIs("refused", x, 0, 1, 1, 2, 1, 1, 3, 1, 4, 1, 0, 5, 1, 0, 0);
        due("a sixth", x.arm(1, 6, 0), 3);
        due("a seventh, a COIL", x.arm(1, 1, 0), -4);
        due("a seventh, a CAPACITOR", x.arm(0, 0, 1), -4);
        due("a seventh and an eighth", x.arm(0, 1, 1), -4);
        due("BAD ahead of FULL", x.arm(0, 0, 0), -2);
        due("BAD ahead of FULL", x.arm(0, 10, 0), -2);
        due("count(0)", x.count(0), 4);
        due("count(1)", x.count(1), 6);
        due("room again", x.back(), 3);
        due("a sixth", x.arm(0, 0, 1), 3);
    }

    @Sentence(promise = 9, words = "FULL: there would be more than 6 VALUES.")
    void promise09_fullBehindWhatIsUnfolded() {
        LadderMaker x = wish(row(3, 0, 4, 0, 1), row(0, 2, 0, 1));
        due("unfold(2): 4 VALUES in 3 ARMS", x.unfold(2), 4);
        due("a fifth and a sixth", x.arm(0, 1, 1), 3);
        due("a seventh", x.arm(0, 1, 0), -4);
    }

    // ---- 10 back

    @Sentence(promise = 10, words = "The last ARM is gone: how many are left.")
    void promise10_theLastArmIsGone() {
        LadderMaker x = ladder(0, 1, 2, 1, 3, 4);
        due("back()", x.back(), 1);
        ladderIs("one left", x, 0, 1, 1, 2, 1);
        billIs("one left", x, 0, 1, 1, 1, 1, 2, 1, 1);
        foldIs("one left", x, row(0, 1), row(1, 0, 2));
        due("count(1)", x.count(1), 2);
        due("values()", x.values(), 2);
        due("back()", x.back(), 0);
        ladderIs("none left", x);
        billIs("none left", x);
        foldIs("none left", x, ZERO, ZERO);
        due("count(1)", x.count(1), 0);
    }

    @Sentence(promise = 10, words = "NOT: there is none.")
    void promise10_notIfThereIsNone() {
        LadderMaker x = ladder(0, 1, 0);
        due("back()", x.back(), 0);
        due("back()", x.back(), -3);
        due("back()", x.back(), -3);
        due("count(0)", x.count(0), 0);
        due("the next is number 0", x.arm(1, 0, 1), 0);
    }

    // ---- 11 unfold

    @Sentence(promise = 11, words = "THE LADDER becomes what is UNFOLDED (way 0 to 3): how many VALUES.")
    void promise11_theLadderBecomesWhatIsUnfolded() {
        LadderMaker x = wish(row(3, 0, 4, 0, 1), row(0, 2, 0, 1));
        for (int k = 0; k < 6; k++) x.arm(0, 9, 0);
        due("six VALUES more do not matter", x.unfold(2), 4);
        ladderIs("way 2", x, 0, 1, 1, 0, 0, 0, 0, 0, 2, 3, 0, 1, 4, 2, 1);
        due("VALUES, not ARMS", x.count(1), 4);
        due("way 3", x.unfold(3), 4);
        ladderIs("way 3, K 1 by 2 at p 1 and at p 3", x, 1, 2, 1, 1, 2, 1, 2, 1, 1, 6);
        due("way 0", x.unfold(0), 4);
        ladderIs("way 0", x, 0, 1, 1, 0, 0, 1, 0, 0, 1, 2, 0, 4, 1, 0, 0, 1, 0, 0, 1, 6);
        due("way 1", x.unfold(1), 4);
        due("count(0)", x.count(0), 4);
        due("element(0, 3)", x.element(0, 3), 2);
        wishIs("THE WISH stays", x, row(3, 0, 4, 0, 1), row(0, 2, 0, 1));
        due("fold(0, 4)", x.fold(0, 4), 1);
        due("count(3)", x.count(3), 4);
    }

    @Sentence(promise = 11, words = "BAD; NOT: THE WISH is not LAWFUL")
    void promise11_badAheadOfNot() {
        LadderMaker x = ladder(0, 7, 0);
        due("unfold(-1)", x.unfold(-1), -2);
        due("unfold(4)", x.unfold(4), -2);
        for (int far : FAR) due("unfold(" + far + ")", x.unfold(far), -2);
        for (int way = 0; way <= 3; way++) due("0 by 0: unfold(" + way + ")", x.unfold(way), -3);
        tellWish(x, row(0, 1), row(1));
        due("LAWFUL: unfold(4)", x.unfold(4), -2);
        due("LAWFUL: unfold(-1)", x.unfold(-1), -2);
        ladderIs("refused", x, 0, 7, 1, 0, 0);
    }

    @Sentence(promise = 11, words = "DARK; OVER, STEPS, whichever comes first.")
    void promise11_darkAheadOfOverAndSteps() {
        due("STEP 0 would not be lawful", wish(row(0, 0, 0, 0, 0, -1), row(1, 0, 3, 0, 1)).unfold(2), -6);
        due("STEP 1 would not be lawful", wish(row(-1), row(0, 1, 0, 3, 0, 1)).unfold(2), -6);
        due("way 0 is never DARK", wish(row(0, 1), row(1, 0, 1, 0, 1)).unfold(0), -100);
    }

    @Sentence(promise = 11, words = "DARK; OVER, STEPS, whichever comes first.")
    void promise11_overOrStepWhicheverComesFirst() {
        due("OVER, then STEP 2", wish(row(-7, 0, 9), row(0, 8, 0, 4)).unfold(0), -5);
        due("STEP 2, then OVER", wish(row(3), row(0, 5, 0, 6, 0, 1)).unfold(2), -102);
    }

    // ---- 12 would

    private static final int[][][] WISHES = {
        { {}, {} }, { { 1 }, { 1 } }, { { 1, 0, 2 }, { 0, 2 } }, { { 0, 2 }, { 1, 0, 2 } }, { { 0, -1 }, { 1 } }, { { -1 }, { 0, 1 } },
        { { 3, 0, 4, 0, 1 }, { 0, 2, 0, 1 } }, { { 1, 0, 3, 0, 1 }, { 0, 1, 0, 1 } }, { { 1, 0, 4, 0, 1 }, { 0, 2, 0, 3 } },
        { { 0, 0, 0, 0, 0, 1 }, { 1, 0, 6, 0, 5 } }, { { 0, 3, 0, 7, 0, 3 }, { 2, 0, 7, 0, 7, 0, 2 } }, { { 1 }, { 0, 0, 0, 1 } } };

    @Sentence(promise = 12, words = "Whether unfold() would be done: as it would answer.")
    void promise12_answersAsUnfold() {
        for (int[][] w : WISHES) {
            for (int way = -1; way <= 4; way++) {
                LadderMaker x = wish(w[0], w[1]);
                int would = x.would(way);
                due("would(" + way + ")", would, x.unfold(way));
            }
        }
        due("done", wish(row(1, 0, 2), row(0, 2)).would(0), 2);
        due("NOT", new LadderMaker().would(0), -3);
        due("DARK", wish(row(0, 1), row(1, 0, 3, 0, 1)).would(2), -6);
        due("OVER", wish(row(1, 0, 4, 0, 1), row(0, 2, 0, 3)).would(0), -5);
        due("STEP 0", wish(row(0, -1), row(1)).would(2), -100);
    }

    @Sentence(promise = 12, words = "(Nothing of it stays.)")
    void promise12_nothingStays() {
        for (int[][] w : WISHES) {
            LadderMaker x = wish(w[0], w[1]);
            x.arm(1, 2, 0);
            long before = x.digest();
            for (int way = -1; way <= 4; way++) x.would(way);
            due("digest()", x.digest(), before);
            ladderIs("as it was", x, 1, 2, 1, 0, 0);
            wishIs("as it was", x, w[0], w[1]);
            due("count(8)", x.count(8), 0);
        }
    }

    @Sentence(promise = 12, words = "BAD.")
    void promise12_bad() {
        LadderMaker x = new LadderMaker();
        due("would(-1)", x.would(-1), -2);
        due("would(4)", x.would(4), -2);
        for (int far : FAR) due("would(" + far + ")", x.would(far), -2);
    }

    // ---- 13 element

    @Sentence(promise = 13, words = "Of an ARM its place (what = 0), COIL above (1; 0: none), below (2; 0), CAPACITOR above (3; 0), below (4; 0).")
    void promise13_element() {
        ladderIs("COIL", ladder(0, 5, 0), 0, 5, 1, 0, 0);
        ladderIs("CAPACITOR", ladder(1, 0, 6), 1, 0, 0, 6, 1);
        LadderMaker x = wish(row(0, 6), row(5, 0, 7));
        x.unfold(2);
        ladderIs("both, fractions", x, 0, 6, 5, 7, 6);
        ladderIs("a smaller one on the place of a greater", afterABack(), 1, 0, 0, 9, 1);
    }

    private static LadderMaker afterABack() {
        LadderMaker x = ladder(0, 3, 3);
        x.back();
        x.arm(1, 0, 9);
        return x;
    }

    @Sentence(promise = 13, words = "BAD.")
    void promise13_bad() {
        LadderMaker x = ladder(0, 1, 2, 1, 3, 4);
        int[][] bad = { { -1, 0 }, { 2, 0 }, { 0, -1 }, { 0, 5 }, { 1, 5 }, { 2, 5 } };
        for (int[] b : bad) due("element(" + b[0] + ", " + b[1] + ")", x.element(b[0], b[1]), -2);
        for (int far : FAR) {
            due("element(" + far + ", 0)", x.element(far, 0), -2);
            due("element(0, " + far + ")", x.element(0, far), -2);
        }
        due("no ARMS", new LadderMaker().element(0, 0), -2);
        x.back();
        due("one that is gone", x.element(1, 0), -2);
        LadderMaker six = ladder(0, 1, 0, 1, 1, 0, 0, 1, 0, 1, 1, 0, 0, 1, 0, 1, 1, 0);
        due("element(5, 0)", six.element(5, 0), 1);
        due("element(6, 0)", six.element(6, 0), -2);
    }

    // ---- 14 fold

    @Sentence(promise = 14, words = "FOLDED: the number of a power (0 to 6) of ABOVE (which = 0), BELOW (1).")
    void promise14_powers0To6() {
        foldIs("six SHUNT COILS", ladder(1, 1, 0, 1, 1, 0, 1, 1, 0, 1, 1, 0, 1, 1, 0, 1, 1, 0), row(0, 0, 0, 0, 0, 0, 1), row(0, 0, 0, 0, 0, 6));
        foldIs("six SERIES CAPACITORS", ladder(0, 0, 1, 0, 0, 1, 0, 0, 1, 0, 0, 1, 0, 0, 1, 0, 0, 1), row(0, 0, 0, 0, 0, 6), row(0, 0, 0, 0, 0, 0, 1));
        foldIs("SERIES COIL", ladder(0, 2, 0), row(0, 2), row(1));
    }

    @Sentence(promise = 14, words = "BAD: 0")
    void promise14_bad() {
        LadderMaker x = ladder(1, 1, 1);
        foldIs("1 and s s by s", x, row(1, 0, 1), row(0, 1));
        int[][] bad = { { -1, 0 }, { 2, 0 }, { 2, 1 }, { 0, -1 }, { 0, 7 }, { 1, -1 }, { 1, 7 } };
        for (int[] b : bad) due("fold(" + b[0] + ", " + b[1] + ")", x.fold(b[0], b[1]), 0);
        for (int far : FAR) {
            due("fold(" + far + ", 0)", x.fold(far, 0), 0);
            due("fold(0, " + far + ")", x.fold(0, far), 0);
        }
    }

    @Sentence(promise = 14, words = "NOT: there are no ARMS: 0.")
    void promise14_0IfThereAreNoArms() {
        LadderMaker x = wish(row(1), row(0, 1));
        foldIs("none", x, ZERO, ZERO);
        x.arm(0, 1, 0);
        x.back();
        foldIs("none any more", x, ZERO, ZERO);
    }

    // ---- 15 alike

    @Sentence(promise = 15, words = "Whether FOLDED and THE WISH are ALIKE: 1, 0.")
    void promise15_alike() {
        LadderMaker x = ladder(0, 1, 0);
        tellWish(x, row(0, 1), row(1));
        due("the same", x.alike(), 1);
        tellWish(x, row(0, 0, -3), row(0, -3));
        due("with - 3 s in both", x.alike(), 1);
        tellWish(x, row(0, 1), row(2));
        due("half of it", x.alike(), 0);
        tellWish(x, row(1, 1), row(1));
        due("1 more", x.alike(), 0);
        tellWish(x, ZERO, row(2));
        due("0 by 2", x.alike(), 0);
    }

    @Sentence(promise = 15, words = "NOT: there are no ARMS")
    void promise15_notIfThereAreNoArms() {
        due("0 by 0", new LadderMaker().alike(), -3);
        due("s by 1", wish(row(0, 1), row(1)).alike(), -3);
        due("0 by 1", wish(ZERO, row(1)).alike(), -3);
    }

    @Sentence(promise = 15, words = "or BELOW of THE WISH is 0.")
    void promise15_notIfBelowIs0() {
        LadderMaker x = ladder(0, 1, 0);
        due("0 by 0", x.alike(), -3);
        tellWish(x, row(0, 1), ZERO);
        due("s by 0", x.alike(), -3);
        x.tell(1, 6, 1);
        due("s by s to the 6th", x.alike(), 0);
    }

    // ---- 16 take

    @Sentence(promise = 16, words = "THE WISH becomes what is FOLDED: the greater degree of both.")
    void promise16_take() {
        LadderMaker x = ladder(0, 9, 0);
        tellWish(x, row(7, 7, 7, 7, 7, 7, 7), row(7, 7, 7, 7, 7, 7, 7));
        due("degree of ABOVE", x.take(), 1);
        wishIs("taken", x, row(0, 9), row(1));
        LadderMaker y = ladder(0, 0, 1, 1, 0, 1);
        due("degree of BELOW", y.take(), 2);
        wishIs("taken", y, row(0, 2), row(0, 0, 1));
        ladderIs("THE LADDER stays", y, 0, 0, 0, 1, 1, 1, 0, 0, 1, 1);
        LadderMaker six = ladder(1, 1, 0, 1, 1, 0, 1, 1, 0, 1, 1, 0, 1, 1, 0, 1, 1, 0);
        due("degree 6", six.take(), 6);
        wishIs("taken", six, row(0, 0, 0, 0, 0, 0, 1), row(0, 0, 0, 0, 0, 6));
        due("alike()", six.alike(), 1);
    }

    @Sentence(promise = 16, words = "NOT: there are no ARMS")
    void promise16_notIfThereAreNoArms() {
        LadderMaker x = wish(row(0, 5), row(5));
        due("take()", x.take(), -3);
        wishIs("refused", x, row(0, 5), row(5));
    }

    @Sentence(promise = 16, words = "OVER: a number is not -9 to 9.")
    void promise16_over() {
        LadderMaker x = wish(row(7), row(7));
        x.arm(0, 9, 0);
        x.arm(0, 1, 0);
        due("10 in ABOVE", x.take(), -5);
        wishIs("refused", x, row(7), row(7));
        LadderMaker y = wish(row(7), row(7));
        y.arm(1, 0, 9);
        y.arm(1, 0, 1);
        due("10 in BELOW", y.take(), -5);
        wishIs("refused", y, row(7), row(7));
        y.back();
        due("9 in BELOW", y.take(), 1);
        wishIs("taken", y, row(1), row(0, 9));
        due("9 in ABOVE", ladder(1, 3, 3).take(), 2);
        due("2 s by (1 and 10 s s)", ladder(0, 2, 5).take(), -5);
        due("a number of power 6", ladder(0, 9, 9, 0, 9, 9, 0, 9, 9).take(), -5);
    }

    @Sentence(promise = 16, words = "OVER: a number is not -9 to 9.")
    void promise16_overByTheNumberOfPower0() {
        // COIL 1 by 2, CAPACITOR 4 by 17, and a COIL 17 by 2 that goes
        LadderMaker x = wish(row(0, 9, 0, 1), row(1, 0, 2));
        due("unfold(0)", x.unfold(0), 3);
        x.back();
        foldIs("two left", x, row(17, 0, 2), row(0, 4));
        due("take()", x.take(), -5);
        wishIs("refused", x, row(0, 9, 0, 1), row(1, 0, 2));
    }
}
