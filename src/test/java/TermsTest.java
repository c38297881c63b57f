/** What stands ahead of Promise 1, but for UNFOLDED (UnfoldingTest) and refusals (RefusalsTest). */
public final class TermsTest extends SentenceRunner {
    public static void main(String[] args) throws Exception {
        new TermsTest().runAll();
    }

    @Sentence(words = "1 THE WISH: two polynomials in s, ABOVE and BELOW, of powers 0 to 6, whole numbers -9 to 9 (all 0 at first).")
    void terms_theWishHasPowers0To6AndNumbersMinus9To9() {
        LadderMaker x = new LadderMaker();
        wishIs("at first", x, ZERO, ZERO);
        for (int power = 0; power <= 6; power++) {
            due("tell(0, " + power + ", -9)", x.tell(0, power, -9), 0);
            due("tell(1, " + power + ", 9)", x.tell(1, power, 9), 0);
        }
        wishIs("least and greatest", x, row(-9, -9, -9, -9, -9, -9, -9), row(9, 9, 9, 9, 9, 9, 9));
    }

    @Sentence(words = "An object is used for at most 512 calls after it has been made; what later calls answer is free.")
    void terms_the512thCallIsAsPromised() {
        LadderMaker x = new LadderMaker();
        for (int call = 1; call <= 510; call++) {
            due("keep()", x.keep(), 0);
        }
        due("call 511: kept(0, 0)", x.kept(0, 0), 510);
        due("call 512: count(5)", x.count(5), 510);
    }

    private void lawfulIs(int want, int[] above, int[] below) {
        due("info(2)", wish(above, below).info(2), want);
    }

    @Sentence(words = "A polynomial is EVEN, if it has even powers alone")
    void terms_even() {
        int[] odd = row(0, 1);
        lawfulIs(1, row(1), odd);
        lawfulIs(1, row(0, 0, 0, 0, 0, 0, 1), odd);
        lawfulIs(1, row(-1, 0, 2, 0, -3, 0, 4), odd);
        lawfulIs(0, row(1, 1), odd);
        lawfulIs(0, row(1, 0, 1, 0, 1, 1, 1), odd);
        lawfulIs(0, row(1, 0, 1, 0, 1, -1), odd);
    }

    @Sentence(words = "ODD, if odd ones alone")
    void terms_odd() {
        int[] even = row(1);
        lawfulIs(1, row(0, 1), even);
        lawfulIs(1, row(0, 0, 0, 0, 0, 1), even);
        lawfulIs(1, row(0, -1, 0, 2, 0, -3), even);
        lawfulIs(0, row(1, 1), even);
        lawfulIs(0, row(0, 1, 0, 1, 0, 1, 1), even);
        lawfulIs(0, row(0, 1, 0, 1, -1), even);
    }

    @Sentence(words = "in both not 0.")
    void terms_0IsNeitherEvenNorOdd() {
        lawfulIs(0, ZERO, row(0, 1));
        lawfulIs(0, ZERO, row(1));
        lawfulIs(0, row(0, 1), ZERO);
        lawfulIs(0, row(1), ZERO);
        lawfulIs(0, ZERO, ZERO);
    }

    @Sentence(words = "THE WISH is LAWFUL, if one of the two is EVEN, the other ODD.")
    void terms_lawful() {
        lawfulIs(1, row(1, 0, 1), row(0, 1, 0, 1));
        lawfulIs(1, row(0, 1, 0, 1), row(1, 0, 1));
        lawfulIs(0, row(1), row(1));
        lawfulIs(0, row(1), row(0, 0, 0, 0, 0, 0, 1));
        lawfulIs(0, row(0, 1), row(0, 1));
        lawfulIs(0, row(0, 0, 0, 1), row(0, 1));
        lawfulIs(0, row(1), row(1, 1));
        lawfulIs(0, row(0, 1), row(1, 1));
    }

    private void keptAs(int[] above, int[] below, int[] keptAbove, int[] keptBelow) {
        LadderMaker x = wish(above, below);
        due("keep()", x.keep(), 0);
        keptIs("AS A PAIR", x, 0, keptAbove, keptBelow);
        wishIs("THE WISH stays", x, above, below);
    }

    @Sentence(words = "AS A PAIR: both polynomials by the greatest whole number that divides all their numbers")
    void terms_asAPairByTheGreatestDivisorOfAll() {
        keptAs(row(8), row(0, 4), row(2), row(0, 1));
        keptAs(row(6, 9, 0, 0, 0, 0, 3), row(0, 0, 9), row(2, 3, 0, 0, 0, 0, 1), row(0, 0, 3));
        keptAs(row(0, 0, 0, 0, 0, 0, 9), row(0, 0, 0, 0, 0, 0, 9), row(0, 0, 0, 0, 0, 0, 1), row(0, 0, 0, 0, 0, 0, 1));
        keptAs(row(4, 6), row(9), row(4, 6), row(9));
        keptAs(row(9), row(4, 6), row(9), row(4, 6));
        keptAs(row(6), row(4, 9), row(6), row(4, 9));
        keptAs(row(-8), row(6), row(-4), row(3));
    }

    @Sentence(words = "AS A PAIR: both polynomials by the greatest whole number that divides all their numbers")
    void terms_asAPair0By0Is0By0() {
        keptAs(ZERO, ZERO, ZERO, ZERO);
    }

    @Sentence(words = "and all signs changed, if the number of the greatest power of BELOW (that is not 0) is less than 0")
    void terms_asAPairByTheSignOfTheGreatestPowerOfBelow() {
        keptAs(row(1, -2), row(5, 0, -1), row(-1, 2), row(-5, 0, 1));
        keptAs(row(1, -2), row(-5, 0, 1), row(1, -2), row(-5, 0, 1));
        keptAs(row(-1), row(1), row(-1), row(1));
        keptAs(row(-1), row(-1), row(1), row(1));
        keptAs(row(0, 0, 0, 0, 0, 0, -1), row(9, 9, 9, 9, 9, 9, -1), row(0, 0, 0, 0, 0, 0, 1), row(-9, -9, -9, -9, -9, -9, 1));
        keptAs(ZERO, row(0, 0, 0, -8), ZERO, row(0, 0, 0, 1));
    }

    @Sentence(words = "(with BELOW 0: that of ABOVE).")
    void terms_asAPairByTheSignOfAboveWithBelow0() {
        keptAs(row(3, 0, 0, 0, 0, 0, -6), ZERO, row(-1, 0, 0, 0, 0, 0, 2), ZERO);
        keptAs(row(-3, 0, 0, 0, 0, 0, 6), ZERO, row(-1, 0, 0, 0, 0, 0, 2), ZERO);
        keptAs(row(-9), ZERO, row(1), ZERO);
    }

    @Sentence(words = "Two FRACTIONS are ALIKE, if each ABOVE times the other one's BELOW is the same.")
    void terms_alikeWhateverIsCommonToBoth() {
        LadderMaker x = ladder(0, 1, 0);
        tellWish(x, row(0, -7, -7), row(-7, -7));
        due("with - 7 and 1 and s in both", x.alike(), 1);
        tellWish(x, row(0, 0, 0, 0, 0, 0, 1), row(0, 0, 0, 0, 0, 1));
        due("with s s s s s in both", x.alike(), 1);
        tellWish(x, row(0, -1), row(1));
        due("with another sign", x.alike(), 0);
        tellWish(x, row(1), row(0, 1));
        due("turned over", x.alike(), 0);
    }

    @Sentence(words = "Two FRACTIONS are ALIKE, if each ABOVE times the other one's BELOW is the same.")
    void terms_alikeInAllPowers0To12OfTheProducts() {
        // six SHUNT COILS of 1 are s to the 6th by 6 s to the 5th: ABOVE times s to the 6th has power 12 alone
        LadderMaker six = ladder(1, 1, 0, 1, 1, 0, 1, 1, 0, 1, 1, 0, 1, 1, 0, 1, 1, 0);
        foldIs("six", six, row(0, 0, 0, 0, 0, 0, 1), row(0, 0, 0, 0, 0, 6));
        for (int power = 0; power <= 6; power++) {
            tellWish(six, ZERO, ZERO);
            six.tell(1, power, 1);
            due("0 by a power: products 0 but for power " + (6 + power), six.alike(), 0);
        }
        LadderMaker one = ladder(1, 0, 1);
        for (int power = 0; power <= 6; power++) {
            tellWish(one, ZERO, ZERO);
            one.tell(1, power, 1);
            due("0 by a power: products 0 but for power " + power, one.alike(), 0);
        }
    }

    @Sentence(words = "An ARM is SERIES or SHUNT, and has a COIL, a CAPACITOR, or both, each with a VALUE, a fraction above 0 in lowest terms.")
    void terms_valuesAreInLowestTerms() {
        LadderMaker x = wish(row(0, 6), row(9));
        due("unfold(0)", x.unfold(0), 1);
        ladderIs("6 s by 9", x, 0, 2, 3, 0, 0);
        tellWish(x, row(0, -8), row(-4));
        due("unfold(0)", x.unfold(0), 1);
        ladderIs("- 8 s by - 4", x, 0, 2, 1, 0, 0);
        tellWish(x, row(4), row(0, 6));
        due("unfold(1)", x.unfold(1), 1);
        ladderIs("4 by 6 s", x, 0, 0, 0, 3, 2);
        tellWish(x, row(0, 4), row(2, 0, 4));
        due("unfold(2)", x.unfold(2), 2);
        ladderIs("4 s by (2 and 4 s s)", x, 0, 2, 1, 1, 1);
        due("a COIL, SHUNT", x.arm(1, 9, 0), 1);
        ladderIs("COIL, CAPACITOR, both", x, 0, 2, 1, 1, 1, 1, 9, 1, 0, 0);
    }

    @Sentence(words = "In a SERIES ARM both are beside each other: with COIL L it is L s, with CAPACITOR C 1 by C s, with both L s by (L C s s and 1).")
    void terms_seriesArms() {
        foldIs("COIL", ladder(0, 2, 0), row(0, 2), row(1));
        foldIs("CAPACITOR", ladder(0, 0, 3), row(1), row(0, 3));
        foldIs("both", ladder(0, 2, 3), row(0, 2), row(1, 0, 6));
        foldIs("greatest", ladder(0, 9, 9), row(0, 9), row(1, 0, 81));
    }

    @Sentence(words = "In a SHUNT ARM both are one behind the other: by its inverse, with a CAPACITOR C s, with a COIL 1 by L s, with both C s by (L C s s and 1).")
    void terms_shuntArms() {
        foldIs("CAPACITOR", ladder(1, 0, 3), row(1), row(0, 3));
        foldIs("COIL", ladder(1, 2, 0), row(0, 2), row(1));
        foldIs("both", ladder(1, 2, 3), row(1, 0, 6), row(0, 3));
        foldIs("greatest", ladder(1, 9, 9), row(1, 0, 81), row(0, 9));
    }

    @Sentence(words = "THE LADDER has ARMS, 0 on, with 6 VALUES at most.")
    void terms_sixValuesAtMost() {
        LadderMaker x = new LadderMaker();
        for (int k = 0; k < 6; k++) {
            due("arm " + k, x.arm(k % 2, 1, 0), k);
        }
        due("a seventh VALUE", x.arm(0, 1, 0), -4);
        LadderMaker y = new LadderMaker();
        for (int k = 0; k < 3; k++) {
            due("arm " + k + " with both", y.arm(k % 2, 1, 1), k);
        }
        due("a seventh VALUE", y.arm(1, 0, 1), -4);
        due("count(1)", y.count(1), 6);
    }

    @Sentence(words = "FOLDED: from the last ARM back: behind it there is 0, if it is SERIES, else what is the inverse of 0")
    void terms_behindTheLastArm() {
        foldIs("SHUNT, then SERIES, behind which is 0", ladder(1, 0, 2, 0, 1, 0), row(0, 1), row(1, 0, 2));
        foldIs("SERIES, then SHUNT, behind which is nothing", ladder(0, 1, 0, 1, 0, 2), row(1, 0, 2), row(0, 2));
    }

    @Sentence(words = "a SERIES ARM is added; a SHUNT ARM is added to the inverse, and that turned over")
    void terms_armsAreAdded() {
        foldIs("SERIES, SERIES", ladder(0, 2, 0, 0, 3, 0), row(0, 5), row(1));
        foldIs("SHUNT, SHUNT", ladder(1, 0, 2, 1, 0, 3), row(1), row(0, 5));
        foldIs("SERIES, SHUNT, SERIES", ladder(0, 2, 0, 1, 0, 1, 0, 1, 0), row(0, 3, 0, 2), row(1, 0, 1));
        foldIs("SHUNT, SERIES, SHUNT", ladder(1, 0, 2, 0, 1, 0, 1, 0, 1), row(1, 0, 1), row(0, 3, 0, 2));
    }

    @Sentence(words = "as polynomials, each time AS A PAIR: (A, B) with an ARM (P, Q) added is A Q and P B, by B Q")
    void terms_foldedIsAPairEachTime() {
        foldIs("1 by 2 s twice: 4 s by 4 s s", ladder(0, 0, 2, 0, 0, 2), row(0, 1), row(0, 0, 1));
        LadderMaker x = wish(row(3, 0, 4, 0, 1), row(0, 2, 0, 1));
        due("unfold(2)", x.unfold(2), 4);
        foldIs("VALUES that are fractions", x, row(3, 0, 4, 0, 1), row(0, 2, 0, 1));
        tellWish(x, row(1, 0, 8, 0, 9, 0, 1), row(0, 2, 0, 5, 0, 3));
        due("unfold(0)", x.unfold(0), 6);
        foldIs("six VALUES", x, row(1, 0, 8, 0, 9, 0, 1), row(0, 2, 0, 5, 0, 3));
    }

    @Sentence(words = "as polynomials, each time AS A PAIR: (A, B) with an ARM (P, Q) added is A Q and P B, by B Q")
    void terms_foldedHasGreatNumbersAndPowerSix() {
        foldIs("SERIES", ladder(0, 9, 9, 0, 9, 9, 0, 9, 9), row(0, 27, 0, 4374, 0, 177147), row(1, 0, 243, 0, 19683, 0, 531441));
        foldIs("SHUNT", ladder(1, 9, 9, 1, 9, 9, 1, 9, 9), row(1, 0, 243, 0, 19683, 0, 531441), row(0, 27, 0, 4374, 0, 177147));
    }

    @Sentence(words = "nothing else is taken out of both.")
    void terms_aCommonPolynomialStays() {
        foldIs("s in both", ladder(0, 0, 1, 0, 0, 2), row(0, 3), row(0, 0, 2));
        foldIs("s in both, SHUNT", ladder(1, 1, 0, 1, 1, 0), row(0, 0, 1), row(0, 2));
        foldIs("1 and s s in both", ladder(0, 1, 1, 0, 1, 1), row(0, 2, 0, 2), row(1, 0, 2, 0, 1));
        foldIs("1 and s s in both, SHUNT", ladder(1, 1, 1, 1, 1, 1), row(1, 0, 2, 0, 1), row(0, 2, 0, 2));
    }

    @Sentence(words = "REACTANCE at W, a fraction above 0: of THE WISH that is LAWFUL, with s s as - W W: of ABOVE by BELOW, "
        + "of the EVEN one its value, of the ODD one that of it divided by s, times W")
    void terms_reactanceOfEachPower() {
        // s to the power by 1, or by s: W to the power or to one less, and its sign
        long[] sign = { 0, 1, 0, -1, 0, 1 };
        for (int power = 1; power <= 5; power += 2) {
            LadderMaker x = new LadderMaker();
            x.tell(0, power, 1);
            x.tell(1, 0, 1);
            due("s to the " + power + " at 2", x.reactance(2, 1, 0), sign[power] << power);
            due("s to the " + power + " at 1 by 2, below", x.reactance(1, 2, 1), 1L << power);
        }
        due("1 by s, at 3 by 2", wish(row(1), row(0, 1)).reactance(3, 2, 1), 3);
        due("s s by s, at 3", wish(row(0, 0, 1), row(0, 1)).reactance(3, 1, 0), 3);
        due("s to the 4th by s, at 3", wish(row(0, 0, 0, 0, 1), row(0, 1)).reactance(3, 1, 0), -27);
        due("9 s to the 6th by s, at 9", wish(row(0, 0, 0, 0, 0, 0, 9), row(0, 1)).reactance(9, 1, 0), 531441);
        due("9 s to the 6th by s, at 1 by 9, below", wish(row(0, 0, 0, 0, 0, 0, 9), row(0, 1)).reactance(1, 9, 1), 6561);
    }

    @Sentence(words = "that of ABOVE by that of BELOW, its sign changed, if BELOW is ODD.")
    void terms_reactanceHasItsSignChangedIfBelowIsOdd() {
        due("1 by s", wish(row(1), row(0, 1)).reactance(1, 1, 0), -1);
        due("1 by - s", wish(row(1), row(0, -1)).reactance(1, 1, 0), 1);
        due("s by 1", wish(row(0, 1), row(1)).reactance(1, 1, 0), 1);
        due("s by - 1", wish(row(0, 1), row(-1)).reactance(1, 1, 0), -1);
        due("s by - 1, below", wish(row(0, 1), row(-1)).reactance(1, 1, 1), 1);
    }

    @Sentence(words = "There is none, if that of BELOW is 0.")
    void terms_reactanceIsNoneWhereBelowIs0() {
        LadderMaker x = wish(row(0, 1), row(9, 0, 4));
        due("9 and 4 s s at 3 by 2", x.reactance(3, 2, 0), refusal(-3));
        due("at 6 by 4", x.reactance(6, 4, 1), refusal(-3));
        due("at 4 by 3", x.reactance(4, 3, 0), 12);
        tellWish(x, row(1), row(0, 1, 0, 1));
        due("s and s s s at 1", x.reactance(1, 1, 0), refusal(-3));
        tellWish(x, row(9, 0, 4), row(0, 1));
        due("ABOVE 0 is one: 0", x.reactance(3, 2, 0), 0);
        due("by 1", x.reactance(3, 2, 1), 1);
        tellWish(x, row(1, 0, 1), row(0, 1, 0, 1));
        due("both 0: none", x.reactance(1, 1, 0), refusal(-3));
    }

    @Sentence(words = "BILL: the different PARTS (COIL or CAPACITOR, with VALUE) of THE LADDER, in the order in which they first come "
        + "(by ARMS, COIL first), and how many there are of each.")
    void terms_billInTheOrderInWhichPartsFirstCome() {
        billIs("none", new LadderMaker());
        billIs("COIL first", ladder(1, 9, 1), 0, 9, 1, 1, 1, 1, 1, 1);
        billIs("by ARMS", ladder(0, 0, 5, 1, 3, 5, 0, 3, 0), 1, 5, 1, 2, 0, 3, 1, 2);
        billIs("the same VALUE, another kind", ladder(0, 4, 4), 0, 4, 1, 1, 1, 4, 1, 1);
        billIs("six of one", ladder(0, 7, 0, 1, 7, 0, 0, 7, 0, 1, 7, 0, 0, 7, 0, 1, 7, 0), 0, 7, 1, 6);
        billIs("six different ones", ladder(0, 1, 2, 1, 3, 4, 0, 5, 6),
            0, 1, 1, 1, 1, 2, 1, 1, 0, 3, 1, 1, 1, 4, 1, 1, 0, 5, 1, 1, 1, 6, 1, 1);
    }

    @Sentence(words = "BILL: the different PARTS (COIL or CAPACITOR, with VALUE) of THE LADDER, in the order in which they first come "
        + "(by ARMS, COIL first), and how many there are of each.")
    void terms_billTellsFractionsApart() {
        LadderMaker x = wish(row(3, 0, 4, 0, 1), row(0, 2, 0, 1));
        due("unfold(2)", x.unfold(2), 4);
        billIs("CAPACITORS 2 by 3 and 2", x, 0, 1, 1, 1, 1, 2, 3, 1, 0, 1, 4, 1, 1, 2, 1, 1);
        due("unfold(0)", x.unfold(0), 4);
        billIs("COILS 1 and 4, CAPACITORS 1 by 2 and 1 by 6", x, 0, 1, 1, 1, 1, 1, 2, 1, 0, 4, 1, 1, 1, 1, 6, 1);
    }

    @Sentence(words = "THE MEMORY: FRACTIONS AS A PAIR, each once, 0 on in the order in which they came, 12 at most, and how often each was kept.")
    void terms_memoryHas12AtMostEachOnce() {
        LadderMaker x = new LadderMaker();
        for (int k = 0; k < 12; k++) {
            tellWish(x, row(k % 9 + 1, 1 + k / 9), row(0, 0, 0, 0, 0, 0, 1));
            due("keep() of number " + k, x.keep(), k);
        }
        tellWish(x, row(1), row(1));
        due("a thirteenth", x.keep(), -4);
        tellWish(x, row(-9, -1), row(0, 0, 0, 0, 0, 0, -1));
        due("one that is there AS A PAIR", x.keep(), 8);
        for (int k = 0; k < 12; k++) {
            due("kept(" + k + ", 0)", x.kept(k, 0), k == 8 ? 2 : 1);
            keptIs("number " + k, x, k, row(k % 9 + 1, 1 + k / 9), row(0, 0, 0, 0, 0, 0, 1));
        }
        due("no thirteenth", x.kept(12, 0), LEAST_INT);
    }

    @Sentence(words = "THE MEMORY: FRACTIONS AS A PAIR, each once, 0 on in the order in which they came, 12 at most, and how often each was kept.")
    void terms_memoryTakesTheSamePairOnceAndAlikeOnesApart() {
        LadderMaker x = wish(row(0, 2), row(6, 0, -4));
        due("keep()", x.keep(), 0);
        tellWish(x, row(0, -3), row(-9, 0, 6));
        due("the same AS A PAIR", x.keep(), 0);
        tellWish(x, row(0, 1), row(-3, 0, 2));
        due("with another sign", x.keep(), 1);
        tellWish(x, row(0, 0, -1), row(0, -3, 0, 2));
        due("ALIKE, but another pair", x.keep(), 2);
        due("kept(0, 0)", x.kept(0, 0), 2);
    }

    @Sentence(words = "SHEETS 0 .. 2 are LOST (at first) or a row of 0 to 40 longs (0 at first).")
    void terms_sheetsHave0To40Items() {
        LadderMaker x = new LadderMaker();
        for (int s = 0; s <= 2; s++) {
            due("lose(" + s + ") at first", x.lose(s), -11);
            due("sheet(" + s + ", 0)", x.sheet(s, 0), 0);
            due("no item", x.get(s, 0), refusal(-12));
            due("sheet(" + s + ", 40)", x.sheet(s, 40), 40);
            sheetIs("at first", x, s, new long[40]);
            due("sheet(" + s + ", 41)", x.sheet(s, 41), -2);
        }
        due("no SHEET 3", x.sheet(3, 1), -2);
        due("no SHEET -1", x.sheet(-1, 1), -2);
    }
}
