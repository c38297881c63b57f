/** UNFOLDED: the four ways, STEPS that are not lawful, DARK and OVER. */
public final class UnfoldingTest extends SentenceRunner {
    private static final int OVER = LadderMaker.OVER, DARK = LadderMaker.DARK;

    public static void main(String[] args) throws Exception {
        new UnfoldingTest().runAll();
    }

    /** Asked with a LADDER that stands, which a refusal has to leave as it is. */
    private void unfolds(int[] above, int[] below, int way, int answer, int... items) {
        LadderMaker x = wish(above, below);
        x.arm(0, 7, 7);
        String when = java.util.Arrays.toString(above) + " by " + java.util.Arrays.toString(below) + ", way " + way;
        due(when + ": would()", x.would(way), answer);
        ladderIs(when + ": after would()", x, 0, 7, 1, 7, 1);
        due(when + ": unfold()", x.unfold(way), answer);
        if (answer < 0) {
            ladderIs(when + ": refused", x, 0, 7, 1, 7, 1);
        } else {
            ladderIs(when, x, items);
            due(when + ": count(1)", x.count(1), answer);
            due(when + ": alike()", x.alike(), 1);
        }
        wishIs(when, x, above, below);
    }

    /** Way 2 of a fraction and way 3 of it turned over are refused alike. */
    private void bothByPoles(int[] above, int[] below, int answer) {
        unfolds(above, below, 2, answer);
        unfolds(below, above, 3, answer);
    }

    @Sentence(words = "2 UNFOLDED: ARMS out of THE WISH, if it is LAWFUL.")
    void unfolded_onlyOfALawfulWish() {
        for (int way = 0; way <= 3; way++) {
            unfolds(ZERO, ZERO, way, -3);
            unfolds(row(0, 1), ZERO, way, -3);
            unfolds(ZERO, row(1), way, -3);
            unfolds(row(0, 1), row(0, 1), way, -3);
            unfolds(row(1), row(1), way, -3);
            unfolds(row(1, 1), row(1), way, -3);
        }
    }

    @Sentence(words = "STEPS are numbered 0 on.")
    void unfolded_theFirstStepIs0() {
        unfolds(row(0, -1), row(1), 0, -100);
        unfolds(row(-1), row(0, 1), 1, -100);
        unfolds(row(0, -1), row(1), 2, -100);
        unfolds(row(-1), row(0, 1), 3, -100);
    }

    // ---- way 0

    @Sentence(words = "Way 0: (P, Q) is ABOVE and BELOW; the next ARM is SERIES, if the degree of P is greater than that of Q; "
        + "else P and Q change places, and it is SHUNT.")
    void way0_theFirstArmIsSeriesOrShuntByTheDegrees() {
        unfolds(row(0, 3), row(5), 0, 1, 0, 3, 5, 0, 0);
        unfolds(row(5), row(0, 3), 0, 1, 1, 0, 0, 3, 5);
        // the greatest powers count here, not the least
        unfolds(row(1, 0, 2), row(0, 2), 0, 2, 0, 1, 1, 0, 0, 1, 0, 0, 2, 1);
        unfolds(row(0, 2), row(1, 0, 2), 0, 2, 1, 0, 0, 1, 1, 0, 2, 1, 0, 0);
    }

    @Sentence(words = "A STEP: it is not lawful, if the degree of P is not just 1 more than that of Q")
    void way0_theDegreeIsToBeJust1More() {
        unfolds(row(0, 0, 0, 1), row(1), 0, -100);
        unfolds(row(0, 0, 0, 0, 0, 1), row(1), 0, -100);
        unfolds(row(1), row(0, 0, 0, 0, 0, 1), 0, -100);
        unfolds(row(1, 0, 0, 0, 0, 0, 1), row(0, 0, 0, 1), 0, -100);
        // 1 is left at STEP 1, at STEP 2
        unfolds(row(1, 0, 1, 0, 1), row(0, 1, 0, 1), 0, -101);
        unfolds(row(0, 1, 0, 1, 0, 1), row(1, 0, 0, 0, 1), 0, -102);
    }

    @Sentence(words = "or K, the number of the greatest power of P by that of Q, is not above 0.")
    void way0_kIsToBeAbove0() {
        unfolds(row(0, 1), row(-1), 0, -100);
        unfolds(row(0, -1), row(1), 0, -100);
        unfolds(row(0, -1), row(-1), 0, 1, 0, 1, 1, 0, 0);
        unfolds(row(-1, 0, 1), row(0, 1), 0, -101);
        unfolds(row(0, -1, 0, 1), row(1, 0, 1), 0, -101);
    }

    @Sentence(words = "The ARM has a COIL (SERIES) or a CAPACITOR (SHUNT) with VALUE K.")
    void way0_coilsInSeriesAndCapacitorsInShunt() {
        unfolds(row(3, 0, 4, 0, 1), row(0, 2, 0, 1), 0, 4,
            0, 1, 1, 0, 0, 1, 0, 0, 1, 2, 0, 4, 1, 0, 0, 1, 0, 0, 1, 6);
    }

    @Sentence(words = "Then Q, and P less K s Q, are the next P and Q, and the next ARM is of the other place; until Q is 0.")
    void way0_endsWhenQIs0() {
        unfolds(row(0, 0, 0, 0, 0, 2), row(0, 0, 0, 0, 1), 0, 1, 0, 2, 1, 0, 0);
        unfolds(row(0, 1, 0, 1), row(1, 0, 1), 0, 1, 0, 1, 1, 0, 0);
        unfolds(row(1, 0, 2, 0, 1), row(0, 1, 0, 1), 0, 2, 0, 1, 1, 0, 0, 1, 0, 0, 1, 1);
        unfolds(row(1, 0, 5, 0, 5, 0, 1), row(0, 2, 0, 4, 0, 1), 0, 6,
            0, 1, 1, 0, 0, 1, 0, 0, 1, 1, 0, 1, 1, 0, 0, 1, 0, 0, 1, 2, 0, 4, 1, 0, 0, 1, 0, 0, 1, 2);
        unfolds(row(0, 3, 0, 4, 0, 1), row(1, 0, 6, 0, 5, 0, 1), 0, 6,
            1, 0, 0, 1, 1, 0, 1, 1, 0, 0, 1, 0, 0, 1, 1, 0, 1, 1, 0, 0, 1, 0, 0, 1, 1, 0, 1, 1, 0, 0);
    }

    // ---- way 1

    @Sentence(words = "Way 1: likewise from the least powers: the least power of P is to be just 1 less than that of Q")
    void way1_theLeastPowerIsToBeJust1Less() {
        unfolds(row(1), row(0, 0, 0, 1), 1, -100);
        unfolds(row(1), row(0, 0, 0, 0, 0, 1), 1, -100);
        unfolds(row(0, 0, 0, 0, 0, 1), row(1), 1, -100);
        unfolds(row(0, 0, 0, 1), row(0, 0, 0, 0, 0, 0, 1), 1, -100);
        // s s s s is left at STEP 1, s s s s s at STEP 2
        unfolds(row(1, 0, 1, 0, 1), row(0, 1, 0, 1), 1, -101);
        unfolds(row(1, 0, 1, 0, 1), row(0, 1, 0, 0, 0, 1), 1, -102);
    }

    @Sentence(words = "(the first ARM is SERIES, if the least power of ABOVE is less than that of BELOW)")
    void way1_theFirstArmIsSeriesOrShuntByTheLeastPowers() {
        unfolds(row(3), row(0, 5), 1, 1, 0, 0, 0, 5, 3);
        unfolds(row(0, 5), row(3), 1, 1, 1, 5, 3, 0, 0);
        // the least powers count here, not the greatest
        unfolds(row(1, 0, 2), row(0, 2), 1, 2, 0, 0, 0, 2, 1, 1, 1, 1, 0, 0);
        unfolds(row(0, 2), row(1, 0, 2), 1, 2, 1, 2, 1, 0, 0, 0, 0, 0, 1, 1);
        unfolds(row(2, 0, 0, 0, 0, 0, 0), row(0, 1), 1, 1, 0, 0, 0, 1, 2);
    }

    @Sentence(words = "K is the number of the least power of P by that of Q")
    void way1_kIsToBeAbove0() {
        unfolds(row(1), row(0, -1), 1, -100);
        unfolds(row(-1), row(0, 1), 1, -100);
        unfolds(row(-1), row(0, -1), 1, 1, 0, 0, 0, 1, 1);
        unfolds(row(1, 0, -1), row(0, 1), 1, -101);
        unfolds(row(1), row(0, 1, 0, 1), 1, -101);
    }

    @Sentence(words = "the ARM has a CAPACITOR (SERIES) or a COIL (SHUNT) with VALUE 1 by K")
    void way1_capacitorsInSeriesAndCoilsInShunt() {
        unfolds(row(1, 0, 4, 0, 3), row(0, 1, 0, 2), 1, 4,
            0, 0, 0, 1, 1, 1, 2, 1, 0, 0, 0, 0, 0, 1, 4, 1, 6, 1, 0, 0);
    }

    @Sentence(words = "the next Q is P less K Q by s.")
    void way1_endsWhenQIs0() {
        unfolds(row(0, 0, 0, 0, 0, 2), row(0, 0, 0, 0, 0, 0, 1), 1, 1, 0, 0, 0, 1, 2);
        unfolds(row(1, 0, 1), row(0, 1, 0, 1), 1, 1, 0, 0, 0, 1, 1);
        unfolds(row(1, 0, 9, 0, 8, 0, 1), row(0, 3, 0, 5, 0, 2), 1, 6,
            0, 0, 0, 3, 1, 1, 22, 9, 0, 0, 0, 0, 0, 3, 11, 1, 3, 4, 0, 0, 0, 0, 0, 17, 99, 1, 66, 17, 0, 0);
        unfolds(row(0, 1, 0, 4, 0, 3), row(1, 0, 5, 0, 6, 0, 1), 1, 6,
            1, 1, 1, 0, 0, 0, 0, 0, 1, 1, 1, 1, 1, 0, 0, 0, 0, 0, 1, 1, 1, 1, 1, 0, 0, 0, 0, 0, 1, 1);
    }

    // ---- way 2

    @Sentence(words = "Way 2: G and H are polynomials in x, which is s s, so that G by H is s times ABOVE by BELOW, without a common x.")
    void way2_aCommonXIsTakenOut() {
        unfolds(row(0, 0, 0, 2), row(0, 0, 1), 2, 1, 0, 2, 1, 0, 0);
        unfolds(row(0, 0, 3), row(0, 0, 0, 1), 2, 1, 0, 0, 0, 1, 3);
        unfolds(row(0, 0, 0, 0, 0, 2), row(0, 0, 0, 0, 3), 2, 1, 0, 2, 3, 0, 0);
        unfolds(row(0, 0, 0, 0, 0, 2), row(0, 0, 0, 0, 0, 0, 3), 2, 1, 0, 0, 0, 3, 2);
        unfolds(row(0, 0, 0, 1), row(0, 0, 1, 0, 1), 2, 2, 0, 1, 1, 1, 1);
        // with ABOVE ODD, G has the x of s times s; with H x x, one x is left in H
        unfolds(row(0, 1), row(0, 0, 1), 2, 1, 0, 0, 0, 1, 1);
        unfolds(row(0, 1), row(0, 0, 0, 0, 1), 2, -101);
    }

    @Sentence(words = "STEP 0: if the degree of G is greater than that of H: it is not lawful, if it is more than 1 more")
    void way2_step0_moreThan1More() {
        bothByPoles(row(0, 0, 0, 1), row(1), -100);
        bothByPoles(row(0, 0, 0, 0, 0, 1), row(1), -100);
        bothByPoles(row(1, 0, 0, 0, 1), row(0, 1), -100);
        bothByPoles(row(1, 0, 0, 0, 0, 0, 1), row(0, 1), -100);
        bothByPoles(row(1, 0, 0, 0, 0, 0, 1), row(0, 1, 0, 1), -100);
    }

    @Sentence(words = "STEP 0: if the degree of G is greater than that of H: it is not lawful, if it is more than 1 more")
    void way2_step0_noArmIfTheDegreeIsNotGreater() {
        unfolds(row(0, 1), row(1, 0, 1), 2, 2, 0, 1, 1, 1, 1);
        unfolds(row(2), row(0, 1), 2, 1, 0, 0, 0, 1, 2);
        // K would be below 0, but there is no STEP 0: the p at 1 tells it
        bothByPoles(row(0, -1), row(1, 0, 1), -102);
    }

    @Sentence(words = "or K, the number of the greatest power of G by that of H, is not above 0")
    void way2_step0_kIsToBeAbove0() {
        bothByPoles(row(0, -1), row(1), -100);
        bothByPoles(row(0, 1), row(-1), -100);
        bothByPoles(row(1, 0, 1), row(0, -1), -100);
        unfolds(row(0, -1), row(-1), 2, 1, 0, 1, 1, 0, 0);
    }

    @Sentence(words = "the ARM has a COIL of VALUE K.")
    void way2_step0_coil() {
        unfolds(row(0, 9), row(8), 2, 1, 0, 9, 8, 0, 0);
        unfolds(row(0, 1, 0, 3, 0, 1), row(1, 0, 4, 0, 3), 2, 5,
            0, 1, 3, 0, 0, 0, 1, 6, 18, 1, 0, 1, 2, 2, 1);
    }

    @Sentence(words = "STEP 1: if the least power of H is not 0, it is not lawful")
    void way2_step1_hIsNotToHaveX() {
        bothByPoles(row(1), row(0, 0, 0, 1), -101);
        bothByPoles(row(1), row(0, 0, 0, 0, 0, 1), -101);
        bothByPoles(row(1), row(0, 0, 0, 1, 0, 1), -101);
        bothByPoles(row(1, 0, 0, 0, 1), row(0, 0, 0, 1), -101);
        bothByPoles(row(0, 1), row(0, 0, 0, 0, 0, 0, 1), -101);
    }

    @Sentence(words = "if the number of power 0 of G is not 0: it is not lawful, if K, that by the one of H, is not above 0")
    void way2_step1_kIsToBeAbove0() {
        bothByPoles(row(-1), row(0, 1), -101);
        bothByPoles(row(1), row(0, -1), -101);
        bothByPoles(row(-1, 0, 1), row(0, 1), -101);
        bothByPoles(row(-1), row(0, 1, 0, 1), -101);
        unfolds(row(-2), row(0, -1), 2, 1, 0, 0, 0, 1, 2);
    }

    @Sentence(words = "if the number of power 0 of G is not 0: it is not lawful, if K, that by the one of H, is not above 0")
    void way2_step1_noArmIfGHasNoPower0() {
        unfolds(row(0, 2), row(4), 2, 1, 0, 1, 2, 0, 0);
        unfolds(row(0, 0, 1), row(0, 1, 0, 1), 2, 2, 0, 1, 1, 1, 1);
    }

    @Sentence(words = "the ARM has a CAPACITOR of VALUE 1 by K.")
    void way2_step1_capacitor() {
        unfolds(row(9), row(0, 8), 2, 1, 0, 0, 0, 8, 9);
        unfolds(row(1, 0, 2), row(0, 2), 2, 2, 0, 1, 1, 0, 0, 0, 0, 0, 2, 1);
    }

    @Sentence(words = "STEPS 2 on: the ROOTS -p of H where p is u by v, or - u by v, with whole numbers u, v 1 to 9")
    void way2_rootsFrom1By9To9() {
        unfolds(row(0, 1), row(9, 0, 1), 2, 2, 0, 1, 9, 1, 1);
        unfolds(row(0, 1), row(1, 0, 9), 2, 2, 0, 1, 1, 9, 1);
        unfolds(row(0, 1), row(9, 0, 8), 2, 2, 0, 1, 9, 8, 1);
        unfolds(row(0, 1), row(8, 0, 9), 2, 2, 0, 1, 8, 9, 1);
        unfolds(row(0, 1), row(1, 0, 1), 2, 2, 0, 1, 1, 1, 1);
        bothByPoles(row(0, 1), row(-9, 0, 1), -102);
        bothByPoles(row(0, 1), row(-1, 0, 9), -102);
    }

    @Sentence(words = "STEPS 2 on: the ROOTS -p of H where p is u by v, or - u by v, with whole numbers u, v 1 to 9")
    void way2_pIsOneRootHoweverItIsWritten() {
        unfolds(row(0, 1), row(9, 0, 9), 2, 2, 0, 1, 9, 9, 1);
        unfolds(row(0, 1), row(2, 0, 4), 2, 2, 0, 1, 2, 4, 1);
        unfolds(row(0, 1), row(6, 0, 9), 2, 2, 0, 1, 6, 9, 1);
    }

    @Sentence(words = "each p one STEP, the least p first (those below 0 ahead)")
    void way2_theLeastPFirst() {
        unfolds(row(0, 5, 0, 2), row(4, 0, 5, 0, 1), 2, 4, 0, 1, 1, 1, 1, 0, 1, 4, 1, 1);
        // 3 by 2 ahead of 2, 1 by 2 ahead of 1
        unfolds(row(0, 7, 0, 4), row(6, 0, 7, 0, 2), 2, 4, 0, 2, 3, 1, 1, 0, 1, 2, 1, 1);
        unfolds(row(0, 3, 0, 4), row(1, 0, 3, 0, 2), 2, 4, 0, 2, 1, 1, 1, 0, 1, 1, 1, 1);
        unfolds(row(0, 3, 0, 7, 0, 3), row(2, 0, 7, 0, 7, 0, 2), 2, 6,
            0, 1, 3, 6, 1, 0, 1, 1, 1, 1, 0, 1, 6, 3, 1);
    }

    @Sentence(words = "each p one STEP, the least p first (those below 0 ahead)")
    void way2_thoseBelow0Ahead() {
        // the ARM of p 1 would be lawful; were it first, -103 would be told
        bothByPoles(row(0, -1), row(-1, 0, 0, 0, 1), -102);
        bothByPoles(row(0, -1), row(-2, 0, -1, 0, 1), -102);
    }

    @Sentence(words = "it is not lawful, if p is not above 0")
    void way2_pIsToBeAbove0() {
        bothByPoles(row(0, 1), row(-1, 0, 1), -102);
        bothByPoles(row(0, -1), row(-1, 0, 1), -102);
        // even with K 0
        bothByPoles(row(0, -1, 0, 1), row(-1, 0, 0, 0, 1), -102);
    }

    @Sentence(words = "or H can be divided by x and p more than once")
    void way2_pIsToBeARootButOnce() {
        bothByPoles(row(0, 1), row(1, 0, 2, 0, 1), -102);
        bothByPoles(row(0, 1), row(1, 0, 3, 0, 3, 0, 1), -102);
        bothByPoles(row(0, 1, 0, 1), row(1, 0, 2, 0, 1), -102);
        bothByPoles(row(0, 1), row(4, 0, 8, 0, 5, 0, 1), -103);
        // p 1 by 2 and p 1: the greater one twice, the less one twice
        bothByPoles(row(0, 1), row(1, 0, 4, 0, 5, 0, 2), -103);
        bothByPoles(row(0, 1), row(1, 0, 5, 0, 8, 0, 4), -102);
    }

    @Sentence(words = "K is the value at -p of G by (-p times that of H divided by x and p)")
    void way2_kAtARoot() {
        unfolds(row(0, 2), row(1, 0, 2), 2, 2, 0, 2, 1, 1, 1);
        // G 3 and 4 x and x x, H 2 and x: at - 2 it is - 1 by - 2
        unfolds(row(3, 0, 4, 0, 1), row(0, 2, 0, 1), 2, 4, 0, 1, 1, 0, 0, 0, 0, 0, 2, 3, 0, 1, 4, 2, 1);
        unfolds(row(1, 0, 6, 0, 7, 0, 1), row(0, 1, 0, 3, 0, 2), 2, 6,
            0, 1, 2, 0, 0, 0, 0, 0, 1, 1, 0, 3, 2, 4, 3, 0, 1, 1, 1, 1);
    }

    @Sentence(words = "if K is 0 there is no ARM")
    void way2_noArmIfKIs0() {
        unfolds(row(0, 1, 0, 1), row(4, 0, 5, 0, 1), 2, 2, 0, 1, 4, 1, 1);
        unfolds(row(0, 4, 0, 1), row(4, 0, 5, 0, 1), 2, 2, 0, 1, 1, 1, 1);
        unfolds(row(0, 1, 0, 1), row(1, 0, 1), 2, 1, 0, 1, 1, 0, 0);
        // it is a STEP nevertheless
        bothByPoles(row(0, -1, 0, -1), row(4, 0, 5, 0, 1), -103);
    }

    @Sentence(words = "it is not lawful, if K is below 0")
    void way2_kAtARootIsNotToBeBelow0() {
        bothByPoles(row(0, -1), row(1, 0, 1), -102);
        bothByPoles(row(0, 1), row(4, 0, 5, 0, 1), -103);
        bothByPoles(row(0, 3, 0, 4), row(2, 0, 7, 0, 7, 0, 2), -104);
    }

    @Sentence(words = "the ARM has a COIL of VALUE K by p and a CAPACITOR of VALUE 1 by K. All ARMS are SERIES.")
    void way2_coilAndCapacitorAtARoot() {
        unfolds(row(0, 6), row(5, 0, 7), 2, 2, 0, 6, 5, 7, 6);
        unfolds(row(0, 0, 1), row(0, 3, 0, 2), 2, 2, 0, 1, 3, 2, 1);
    }

    @Sentence(words = "If H has other ROOTS besides 0 and these (divided by x, and by x and p, as often as it can be, it is no number alone), "
        + "it is DARK: told ahead of all STEPS.")
    void way2_darkIfRootsAreNoFractions() {
        bothByPoles(row(0, 1), row(1, 0, 3, 0, 1), DARK);
        bothByPoles(row(0, 1), row(1, 0, 1, 0, 1), DARK);
        bothByPoles(row(0, 1), row(-2, 0, 0, 0, 1), DARK);
        bothByPoles(row(0, 1), row(2, 0, 3, 0, 2, 0, 1), DARK);
        bothByPoles(row(0, 1), row(1, 0, 0, 0, 0, 0, 2), DARK);
        bothByPoles(row(1), row(0, 1, 0, 3, 0, 1), DARK);
    }

    @Sentence(words = "If H has other ROOTS besides 0 and these (divided by x, and by x and p, as often as it can be, it is no number alone), "
        + "it is DARK: told ahead of all STEPS.")
    void way2_notDarkIfANumberAloneIsLeft() {
        unfolds(row(0, 1), row(7), 2, 1, 0, 1, 7, 0, 0);
        bothByPoles(row(1), row(0, 0, 0, 1), -101);
        bothByPoles(row(1), row(0, 0, 0, 0, 0, 1), -101);
        bothByPoles(row(1), row(0, 0, 0, 5, 0, 7), -101);
        bothByPoles(row(0, 1), row(1, 0, 3, 0, 3, 0, 1), -102);
        bothByPoles(row(0, 1), row(8, 0, -8, 0, 2), -102);
    }

    @Sentence(words = "If H has other ROOTS besides 0 and these (divided by x, and by x and p, as often as it can be, it is no number alone), "
        + "it is DARK: told ahead of all STEPS.")
    void way2_darkAheadOfAllSteps() {
        bothByPoles(row(0, 0, 0, 0, 0, -1), row(1, 0, 3, 0, 1), DARK);
        bothByPoles(row(-1), row(0, 1, 0, 3, 0, 1), DARK);
        bothByPoles(row(0, 1), row(-1, 0, -2, 0, 2, 0, 1), DARK);
    }

    // ---- way 3

    @Sentence(words = "Way 3: as way 2 with ABOVE and BELOW changed; ARMS are SHUNT")
    void way3_shuntArmsOfTheFractionTurnedOver() {
        unfolds(row(1), row(0, 3), 3, 1, 1, 0, 0, 3, 1);
        unfolds(row(0, 3), row(1), 3, 1, 1, 3, 1, 0, 0);
        unfolds(row(0, 0, 1), row(0, 0, 0, 2), 3, 1, 1, 0, 0, 2, 1);
        unfolds(row(1, 0, 3, 0, 1), row(0, 1), 3, DARK);
        unfolds(row(1, 0, 3, 0, 1), row(0, 1, 0, 1), 2, 4, 0, 1, 1, 0, 0, 0, 0, 0, 1, 1, 0, 1, 1, 1, 1);
    }

    @Sentence(words = "at STEP 0 a CAPACITOR of VALUE K, at 1 a COIL of VALUE 1 by K, at others a CAPACITOR of VALUE K by p and a COIL of VALUE 1 by K.")
    void way3_coilsAndCapacitors() {
        unfolds(row(0, 2), row(1, 0, 2), 3, 2, 1, 0, 0, 1, 1, 1, 2, 1, 0, 0);
        unfolds(row(5, 0, 7), row(0, 6), 3, 2, 1, 7, 6, 6, 5);
        unfolds(row(0, 1, 0, 3, 0, 2), row(1, 0, 6, 0, 7, 0, 1), 3, 6,
            1, 0, 0, 1, 2, 1, 1, 1, 0, 0, 1, 4, 3, 3, 2, 1, 1, 1, 1, 1);
        unfolds(row(2, 0, 7, 0, 7, 0, 2), row(0, 3, 0, 7, 0, 3), 3, 6,
            1, 6, 1, 1, 3, 1, 1, 1, 1, 1, 1, 3, 1, 1, 6);
        unfolds(row(4, 0, 5, 0, 1), row(0, 1, 0, 1), 3, 2, 1, 1, 1, 1, 4);
    }

    // ---- what is told

    @Sentence(words = "What is told of a STEP that is not lawful: -100 less its number.")
    void told_stepsOfWay0() {
        unfolds(row(0, -1), row(1), 0, -100);
        unfolds(row(-1, 0, 1), row(0, 1), 0, -101);
        unfolds(row(0, 0, 0, 1), row(-1, 0, 1), 0, -102);
        unfolds(row(1, 0, 0, 0, 1), row(0, 0, 0, 1, 0, 1), 0, -103);
        unfolds(row(0, 1, 0, 0, 0, 2), row(1, 0, 0, 0, 1, 0, 1), 0, -104);
        unfolds(row(1, 0, 0, 0, -3, 0, -1), row(0, 1, 0, -2, 0, -1), 0, -105);
    }

    @Sentence(words = "What is told of a STEP that is not lawful: -100 less its number.")
    void told_stepsOfWay1() {
        unfolds(row(-1), row(0, 1), 1, -100);
        unfolds(row(1, 0, -1), row(0, 1), 1, -101);
        unfolds(row(0, 0, 1), row(0, 0, 0, 1, 0, -1), 1, -102);
        unfolds(row(0, 1, 0, 0, 0, 1), row(1, 0, 1), 1, -103);
        unfolds(row(0, 2, 0, 1), row(1, 0, 1, 0, 0, 0, 1), 1, -104);
        unfolds(row(0, 1, 0, 2, 0, -1), row(1, 0, 3, 0, 0, 0, -1), 1, -105);
    }

    @Sentence(words = "What is told of a STEP that is not lawful: -100 less its number.")
    void told_stepsOfWays2And3() {
        bothByPoles(row(0, -1), row(1), -100);
        bothByPoles(row(-1), row(0, 1), -101);
        bothByPoles(row(0, 0, 1), row(0, -1, 0, 1), -102);
        bothByPoles(row(0, 0, 1), row(0, 2, 0, 3, 0, 1), -103);
        bothByPoles(row(0, 2, 0, 2), row(2, 0, 7, 0, 7, 0, 2), -104);
    }

    @Sentence(words = "HANDY is a VALUE whose above and below are 99 at most.")
    void told_99IsHandy() {
        unfolds(row(1, 0, 8, 0, 9, 0, 1), row(0, 2, 0, 5, 0, 3), 0, 6,
            0, 1, 3, 0, 0, 1, 0, 0, 9, 22, 0, 11, 3, 0, 0, 1, 0, 0, 4, 3, 0, 99, 17, 0, 0, 1, 0, 0, 17, 66);
        unfolds(row(0, 3, 0, 5, 0, 2), row(1, 0, 9, 0, 8, 0, 1), 1, 6,
            1, 3, 1, 0, 0, 0, 0, 0, 22, 9, 1, 3, 11, 0, 0, 0, 0, 0, 3, 4, 1, 17, 99, 0, 0, 0, 0, 0, 66, 17);
        // STEP 1 has 49 by 99, and 99 by 49; were they OVER, STEP 2 would not be come to
        unfolds(row(0, -9, 0, -6), row(6, 0, -7), 0, -102);
        unfolds(row(0, 0, 7, 0, -6), row(0, 6, 0, 9), 1, -102);
    }

    @Sentence(words = "OVER: a VALUE is not HANDY.")
    void told_100AboveIsOver() {
        // the VALUES: 100 by 33 and 100 by 3, 100 by 81, 100 by 19, 100
        unfolds(row(1, 0, 4, 0, 1), row(0, 2, 0, 3), 0, OVER);
        unfolds(row(0, 1, 0, 3), row(1, 0, 4, 0, 2), 0, OVER);
        unfolds(row(0, 9, 0, -4), row(7, 0, 8), 1, OVER);
        bothByPoles(row(1, 0, 3, 0, 1), row(0, 4, 0, 5), OVER);
        bothByPoles(row(0, 0, 0, 0, 0, 1), row(1, 0, 6, 0, 5), OVER);
    }

    @Sentence(words = "OVER: a VALUE is not HANDY.")
    void told_100BelowIsOver() {
        // the VALUES: 81 by 100, 3 by 100 twice, 19 by 100
        unfolds(row(-7, 0, 9), row(0, 8, 0, 4), 0, OVER);
        unfolds(row(0, 3, 0, 1), row(2, 0, 4, 0, 1), 1, OVER);
        unfolds(row(2, 0, 4, 0, 1), row(0, 3, 0, 1), 1, OVER);
        bothByPoles(row(1, 0, 3, 0, 1), row(0, 5, 0, 4), OVER);
    }

    @Sentence(words = "The first STEP with either tells it.")
    void told_overAheadOfALaterStep() {
        // were 100 HANDY, these would end with STEPS 2, 3, 4, 5; 2, 3, 4, 5; 3
        unfolds(row(-7, 0, 9), row(0, 8, 0, 4), 0, OVER);
        unfolds(row(-2, 0, 0, 0, 7), row(0, -1, 0, 4), 0, OVER);
        unfolds(row(0, -2, 0, 3, 0, 3), row(-1, 0, 0, 0, 4), 0, OVER);
        unfolds(row(0, 4, 0, -2, 0, -6), row(4, 0, 0, 0, -7, 0, -1), 0, OVER);
        unfolds(row(0, 9, 0, -4), row(7, 0, 8), 1, OVER);
        unfolds(row(0, 3, 0, -2), row(5, 0, 0, 0, -3), 1, OVER);
        unfolds(row(0, 4, 0, 0, 0, -1), row(3, 0, 3, 0, -2), 1, OVER);
        unfolds(row(1, 0, 4, 0, 0, 0, -3), row(0, 2, 0, 1, 0, -2), 1, OVER);
        bothByPoles(row(0, 0, 0, 0, 0, 1), row(1, 0, 6, 0, 5), OVER);
    }

    @Sentence(words = "The first STEP with either tells it.")
    void told_aStepAheadOfALaterOver() {
        // p 1 with K - 3 by 4 comes ahead of p 5 with a COIL of 3 by 100
        bothByPoles(row(3), row(0, 5, 0, 6, 0, 1), -102);
        bothByPoles(row(0, 0, 0, -1), row(5, 0, 3, 0, -8), -102);
    }

    @Sentence(words = "The first STEP with either tells it.")
    void told_aKBelow0IsNotLawfulHoweverGreat() {
        unfolds(row(-5, 0, -9), row(0, 9, 0, -4), 0, -101);
        unfolds(row(1, 0, 0, 0, 1), row(0, -1, 0, 5), 0, -102);
        unfolds(row(0, 4, 0, 9), row(9, 0, -5), 1, -101);
        unfolds(row(0, -4, 0, 1), row(-1, 0, 0, 0, -2), 1, -102);
        bothByPoles(row(4, 0, 0, 0, 1), row(0, 1, 0, 5), -102);
        bothByPoles(row(0, 0, 0, 0, 0, -5), row(-5, 0, -6, 0, -1), -103);
    }
}
