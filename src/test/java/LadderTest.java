/** Promises 9 to 16: the ladder. */
public final class LadderTest {
    private static final Check check = new Check();
    private static final int[] NO = {};

    public static void main(String[] args) {
        arm();
        back();
        divideFromGreatest();
        divideFromLeast();
        divideByPoles();
        divideByPolesTurnedOver();
        over();
        would();
        fold();
        alike();
        take();
        check.end();
    }

    private static void arm() {
        LadderMaker x = new LadderMaker();
        int[][] bad = { { -1, 1, 1 }, { 2, 1, 1 }, { 0, -1, 1 }, { 0, 10, 1 }, { 1, 1, -1 }, { 1, 1, 10 }, { 0, 0, 0 }, { 1, 0, 0 },
            { 0, Integer.MIN_VALUE, Integer.MIN_VALUE } };
        for (int[] b : bad) check.due("arm not as told", x.arm(b[0], b[1], b[2]), -2);
        check.due("arm(0, 9, 0)", x.arm(0, 9, 0), 0);
        check.due("arm(1, 0, 1)", x.arm(1, 0, 1), 1);
        check.due("arm(1, 2, 3)", x.arm(1, 2, 3), 2);
        check.ladderIs("told", x, 0, 9, 1, 0, 0, 1, 0, 0, 1, 1, 1, 2, 1, 3, 1);
        check.due("count(1)", x.count(1), 4);
        check.due("arm(0, 1, 0)", x.arm(0, 1, 0), 3);
        check.due("a sixth and a seventh", x.arm(0, 1, 1), -4);
        check.due("BAD ahead of FULL", x.arm(0, 10, 1), -2);
        check.due("count(0) after FULL", x.count(0), 4);
        check.due("a sixth", x.arm(0, 0, 9), 4);
        check.due("a seventh", x.arm(1, 0, 9), -4);
        check.due("count(1)", x.count(1), 6);
        int[][] noItem = { { -1, 0 }, { 5, 0 }, { 0, -1 }, { 0, 5 }, { Integer.MAX_VALUE, 0 } };
        for (int[] n : noItem) check.due("element not as told", x.element(n[0], n[1]), -2);
        LadderMaker six = new LadderMaker();
        for (int i = 0; i < 6; i++) check.due("six alone", six.arm(i % 2, 1, 0), i);
        check.due("seven alone", six.arm(0, 1, 0), -4);
    }

    private static void back() {
        LadderMaker x = new LadderMaker();
        check.due("back() of none", x.back(), -3);
        x.arm(0, 1, 2);
        x.arm(1, 3, 4);
        check.due("back()", x.back(), 1);
        check.ladderIs("one left", x, 0, 1, 1, 2, 1);
        check.due("bill(2, 0)", x.bill(2, 0), -2);
        check.foldIs("one left", x, Check.row(0, 1), Check.row(1, 0, 2));
        check.due("back()", x.back(), 0);
        check.foldIs("none left", x, NO, NO);
        check.due("back()", x.back(), -3);
    }

    private static LadderMaker of(int[] above, int[] below) {
        LadderMaker x = new LadderMaker();
        Check.wish(x, above, below);
        return x;
    }

    private static void unfolds(String when, int[] above, int[] below, int way, int many, int... items) {
        LadderMaker x = of(above, below);
        x.arm(0, 7, 7);
        check.due(when + ": would(" + way + ")", x.would(way), many);
        check.due(when + ": count(0) after would()", x.count(0), 1);
        check.due(when + ": unfold(" + way + ")", x.unfold(way), many);
        if (many < 0) {
            check.ladderIs(when + ": refused", x, 0, 7, 1, 7, 1);
        } else {
            check.ladderIs(when, x, items);
            check.due(when + ": count(1)", x.count(1), many);
            check.due(when + ": alike()", x.alike(), 1);
        }
        check.wishIs(when, x, above, below);
    }

    private static void divideFromGreatest() {
        unfolds("way 0", Check.row(1, 0, 2), Check.row(0, 2), 0, 2, 0, 1, 1, 0, 0, 1, 0, 0, 2, 1);
        unfolds("way 0, SHUNT first", Check.row(0, 2), Check.row(1, 0, 2), 0, 2, 1, 0, 0, 1, 1, 0, 2, 1, 0, 0);
        unfolds("way 0, one VALUE", Check.row(0, 3), Check.row(5), 0, 1, 0, 3, 5, 0, 0);
        unfolds("way 0, both signs less than 0", Check.row(0, -3), Check.row(-5), 0, 1, 0, 3, 5, 0, 0);
        unfolds("way 0, a common s", Check.row(0, 0, 0, 2), Check.row(0, 0, 1), 0, 1, 0, 2, 1, 0, 0);
        unfolds("way 0, six", Check.row(1, 0, 5, 0, 5, 0, 1), Check.row(0, 2, 0, 4, 0, 1), 0, 6,
            0, 1, 1, 0, 0, 1, 0, 0, 1, 1, 0, 1, 1, 0, 0, 1, 0, 0, 1, 2, 0, 4, 1, 0, 0, 1, 0, 0, 1, 2);
        unfolds("way 0, six that are alike", Check.row(1, 0, 6, 0, 5, 0, 1), Check.row(0, 3, 0, 4, 0, 1), 0, 6,
            0, 1, 1, 0, 0, 1, 0, 0, 1, 1, 0, 1, 1, 0, 0, 1, 0, 0, 1, 1, 0, 1, 1, 0, 0, 1, 0, 0, 1, 1);
        unfolds("way 0, not 1 more", Check.row(0, 0, 0, 1), Check.row(1), 0, -100);
        unfolds("way 0, K below 0", Check.row(0, 1), Check.row(-1), 0, -100);
        unfolds("way 0, K below 0 at STEP 1", Check.row(-1, 0, 1), Check.row(0, 1), 0, -101);
        unfolds("way 0, not 1 more at STEP 1", Check.row(1, 0, 1, 0, 1), Check.row(0, 1, 0, 1), 0, -101);
        unfolds("way 0, a gap at STEP 2", Check.row(1, 0, 2, 0, 1), Check.row(0, 0, 0, 1), 0, -102);
    }

    private static void divideFromLeast() {
        unfolds("way 1", Check.row(1, 0, 2), Check.row(0, 2), 1, 2, 0, 0, 0, 2, 1, 1, 1, 1, 0, 0);
        unfolds("way 1, SHUNT first", Check.row(0, 2), Check.row(1, 0, 2), 1, 2, 1, 2, 1, 0, 0, 0, 0, 0, 1, 1);
        unfolds("way 1, one VALUE", Check.row(3), Check.row(0, 5), 1, 1, 0, 0, 0, 5, 3);
        unfolds("way 1, a coil alone", Check.row(0, 5), Check.row(3), 1, 1, 1, 5, 3, 0, 0);
        unfolds("way 1, not 1 less", Check.row(1), Check.row(0, 0, 0, 1), 1, -100);
        unfolds("way 1, K below 0", Check.row(-1), Check.row(0, 1), 1, -100);
        unfolds("way 1, K below 0 at STEP 1", Check.row(1, 0, -1), Check.row(0, 1), 1, -101);
        unfolds("way 1, powers run backwards", Check.row(1, 0, 0, 0, 0), Check.row(0, 1, 0, 1), 1, -101);
    }

    private static void divideByPoles() {
        unfolds("way 2", Check.row(1, 0, 2), Check.row(0, 2), 2, 2, 0, 1, 1, 0, 0, 0, 0, 0, 2, 1);
        unfolds("way 2, a pole beside", Check.row(0, 2), Check.row(1, 0, 2), 2, 2, 0, 2, 1, 1, 1);
        unfolds("way 2, a common x", Check.row(0, 0, 0, 2), Check.row(0, 0, 1), 2, 1, 0, 2, 1, 0, 0);
        unfolds("way 2, a common s", Check.row(0, 0, 3), Check.row(0, 0, 0, 1), 2, 1, 0, 0, 0, 1, 3);
        unfolds("way 2, a pole that goes out", Check.row(0, 1, 0, 1), Check.row(4, 0, 5, 0, 1), 2, 2, 0, 1, 4, 1, 1);
        unfolds("way 2, the least p first", Check.row(0, 5, 0, 2), Check.row(4, 0, 5, 0, 1), 2, 4, 0, 1, 1, 1, 1, 0, 1, 4, 1, 1);
        unfolds("way 2, p 1 by 2 ahead of p 1", Check.row(0, 3, 0, 4), Check.row(1, 0, 3, 0, 2), 2, 4, 0, 2, 1, 1, 1, 0, 1, 1, 1, 1);
        unfolds("way 2, p twice ahead of p 1", Check.row(0, 1), Check.row(1, 0, 5, 0, 8, 0, 4), 2, -102);
        unfolds("way 2, p 9", Check.row(0, 1), Check.row(9, 0, 1), 2, 2, 0, 1, 9, 1, 1);
        unfolds("way 2, p 1 by 9", Check.row(0, 1), Check.row(1, 0, 9), 2, 2, 0, 1, 1, 9, 1);
        unfolds("way 2, p - 9", Check.row(0, 1), Check.row(-9, 0, 1), 2, -102);
        unfolds("way 2, DARK ahead of STEPS", Check.row(0, -1, 0, 0, 0, 0, 0), Check.row(1, 0, 3, 0, 1), 2, -6);
        unfolds("way 2, no real poles", Check.row(0, 1), Check.row(1, 0, 1, 0, 1), 2, -6);
        unfolds("way 2, DARK with one that is none", Check.row(0, 1), Check.row(2, 0, 3, 0, 2, 0, 1), 2, -6);
        unfolds("way 2, more than 1 more", Check.row(0, 0, 0, 1), Check.row(1), 2, -100);
        unfolds("way 2, K below 0 at STEP 0", Check.row(0, -1), Check.row(1), 2, -100);
        unfolds("way 2, STEP 0 ahead of 1", Check.row(-1, 0, -1), Check.row(0, 1), 2, -100);
        unfolds("way 2, poles at 0", Check.row(1), Check.row(0, 0, 0, 1), 2, -101);
        unfolds("way 2, K below 0 at STEP 1", Check.row(-1), Check.row(0, 1), 2, -101);
        unfolds("way 2, STEP 1 ahead of 2", Check.row(-1), Check.row(0, 1, 0, -1), 2, -101);
        unfolds("way 2, p below 0", Check.row(0, 1), Check.row(-1, 0, 1), 2, -102);
        unfolds("way 2, p below 0 ahead", Check.row(0, 1), Check.row(-1, 0, 0, 0, 1), 2, -102);
        unfolds("way 2, p twice", Check.row(0, 1), Check.row(1, 0, 2, 0, 1), 2, -102);
        unfolds("way 2, p twice, once in both", Check.row(0, 1, 0, 1), Check.row(1, 0, 2, 0, 1), 2, -102);
        unfolds("way 2, K below 0 at STEP 2", Check.row(0, -1), Check.row(1, 0, 1), 2, -102);
        unfolds("way 2, K 0 is a STEP", Check.row(0, -1, 0, -1), Check.row(4, 0, 5, 0, 1), 2, -103);
        unfolds("way 2, p twice at STEP 3", Check.row(0, 1), Check.row(4, 0, 8, 0, 5, 0, 1), 2, -103);
    }

    private static void divideByPolesTurnedOver() {
        unfolds("way 3", Check.row(1, 0, 2), Check.row(0, 2), 3, 2, 1, 1, 1, 2, 1);
        unfolds("way 3, CAPACITOR then COIL", Check.row(0, 2), Check.row(1, 0, 2), 3, 2, 1, 0, 0, 1, 1, 1, 2, 1, 0, 0);
        unfolds("way 3, the least p first", Check.row(4, 0, 5, 0, 1), Check.row(0, 5, 0, 2), 3, 4, 1, 1, 1, 1, 1, 1, 1, 1, 1, 4);
        unfolds("way 3, DARK", Check.row(1, 0, 3, 0, 1), Check.row(0, 1), 3, -6);
        unfolds("way 3, STEP 0", Check.row(1), Check.row(0, -1), 3, -100);
        unfolds("way 3, STEP 1", Check.row(0, 1), Check.row(-1), 3, -101);
        unfolds("way 3, STEP 2", Check.row(-1, 0, 1), Check.row(0, 1), 3, -102);
    }

    /** VALUES whose above or below is more than 99, and what comes first. */
    private static void over() {
        unfolds("way 0, 98 by 295", Check.row(2, 0, 1, 0, 7, 0, 3), Check.row(0, 3, 0, 7, 0, 5), 0, -5);
        unfolds("way 1, as way 0 run backwards", Check.row(3, 0, 7, 0, 1, 0, 2), Check.row(0, 5, 0, 7, 0, 3), 1, -5);
        unfolds("way 2, 150 by 11", Check.row(1, 0, 6, 0, 4), Check.row(0, 6, 0, 5), 2, -5);
        unfolds("way 3, 150 by 11", Check.row(0, 6, 0, 5), Check.row(1, 0, 6, 0, 4), 3, -5);
        unfolds("way 0, 99 by 17", Check.row(1, 0, 8, 0, 9, 0, 1), Check.row(0, 2, 0, 5, 0, 3), 0, 6,
            0, 1, 3, 0, 0, 1, 0, 0, 9, 22, 0, 11, 3, 0, 0, 1, 0, 0, 4, 3, 0, 99, 17, 0, 0, 1, 0, 0, 17, 66);
        unfolds("way 1, 17 by 99", Check.row(1, 0, 9, 0, 8, 0, 1), Check.row(0, 3, 0, 5, 0, 2), 1, 6,
            0, 0, 0, 3, 1, 1, 22, 9, 0, 0, 0, 0, 0, 3, 11, 1, 3, 4, 0, 0, 0, 0, 0, 17, 99, 1, 66, 17, 0, 0);
        unfolds("way 0, 100", Check.row(0, 7, 0, 6), Check.row(4, 0, 9, 0, 2), 0, -5);
        unfolds("way 1, 100", Check.row(0, 3, 0, 4), Check.row(1, 0, 8, 0, 4), 1, -5);
        unfolds("way 2, 100 by 37", Check.row(3, 0, 8, 0, 3), Check.row(0, 4, 0, 5), 2, -5);
        unfolds("way 3, 100", Check.row(0, 5, 0, 4), Check.row(2, 0, 9, 0, 5), 3, -5);
        unfolds("way 0, OVER ahead of STEP 3", Check.row(0, 2, 0, 4, 0, 3), Check.row(7, 0, 2, 0, 5), 0, -5);
        unfolds("way 1, OVER ahead of STEP 3", Check.row(1, 0, 4, 0, 1, 0, 4), Check.row(0, 6, 0, 7, 0, 8), 1, -5);
        unfolds("way 2, OVER ahead of STEP 3", Check.row(0, 9, 0, 8, 0, 3), Check.row(1, 0, 5, 0, 4), 2, -5);
        unfolds("way 3, OVER ahead of STEP 3", Check.row(1, 0, 6, 0, 5), Check.row(0, 2, 0, 3, 0, 4), 3, -5);
        unfolds("way 2, STEP 3", Check.row(2, 0, 9, 0, 8, 0, 4), Check.row(0, 6, 0, 7, 0, 1), 2, -103);
    }

    private static void would() {
        LadderMaker x = new LadderMaker();
        int[] bad = { -1, 4, Integer.MIN_VALUE, Integer.MAX_VALUE };
        for (int way : bad) {
            check.due("would(" + way + ")", x.would(way), -2);
            check.due("unfold(" + way + ")", x.unfold(way), -2);
        }
        for (int way = 0; way <= 3; way++) {
            check.due("not lawful: would(" + way + ")", x.would(way), -3);
            check.due("not lawful: unfold(" + way + ")", x.unfold(way), -3);
        }
        Check.wish(x, Check.row(1, 0, 2), Check.row(0, 2));
        check.due("unfold(0)", x.unfold(0), 2);
        check.due("would(3)", x.would(3), 2);
        check.ladderIs("nothing of would() stays", x, 0, 1, 1, 0, 0, 1, 0, 0, 2, 1);
        x.arm(0, 1, 1);
        check.due("an ARM more on what was UNFOLDED", x.count(1), 4);
        check.due("unfold(1) again", x.unfold(1), 2);
        check.due("the BILL is that of the new one", x.count(3), 2);
    }

    private static LadderMaker ladder(int... items) {
        LadderMaker x = new LadderMaker();
        for (int i = 0; i + 2 < items.length; i += 3) x.arm(items[i], items[i + 1], items[i + 2]);
        return x;
    }

    private static void fold() {
        check.foldIs("SERIES COIL", ladder(0, 2, 0), Check.row(0, 2), Check.row(1));
        check.foldIs("SERIES CAPACITOR", ladder(0, 0, 3), Check.row(1), Check.row(0, 3));
        check.foldIs("SERIES both", ladder(0, 2, 3), Check.row(0, 2), Check.row(1, 0, 6));
        check.foldIs("SHUNT COIL", ladder(1, 2, 0), Check.row(0, 2), Check.row(1));
        check.foldIs("SHUNT CAPACITOR", ladder(1, 0, 3), Check.row(1), Check.row(0, 3));
        check.foldIs("SHUNT both", ladder(1, 2, 3), Check.row(1, 0, 6), Check.row(0, 3));
        check.foldIs("SERIES, SHUNT", ladder(0, 1, 0, 1, 0, 2), Check.row(1, 0, 2), Check.row(0, 2));
        check.foldIs("SHUNT, SERIES", ladder(1, 0, 2, 0, 1, 0), Check.row(0, 1), Check.row(1, 0, 2));
        check.foldIs("a common s stays", ladder(0, 0, 2, 0, 0, 2), Check.row(0, 1), Check.row(0, 0, 1));
        check.foldIs("it stays in SHUNT ARMS", ladder(1, 1, 0, 1, 1, 0), Check.row(0, 0, 1), Check.row(0, 2));
        check.foldIs("the greatest numbers", ladder(0, 9, 9, 0, 9, 9, 0, 9, 9),
            Check.row(0, 27, 0, 4374, 0, 177147), Check.row(1, 0, 243, 0, 19683, 0, 531441));
        LadderMaker x = ladder(0, 2, 0);
        int[][] bad = { { -1, 0 }, { 2, 0 }, { 0, -1 }, { 1, 7 } };
        for (int[] b : bad) check.due("fold not as told", x.fold(b[0], b[1]), 0);
    }

    private static void alike() {
        LadderMaker x = new LadderMaker();
        Check.wish(x, Check.row(0, 1), Check.row(1));
        check.due("no ARMS", x.alike(), -3);
        x.arm(0, 1, 0);
        check.due("the same", x.alike(), 1);
        Check.wish(x, Check.row(0, 0, -3), Check.row(0, -3));
        check.due("with factors in both", x.alike(), 1);
        Check.wish(x, Check.row(0, 1), Check.row(2));
        check.due("another", x.alike(), 0);
        Check.wish(x, Check.row(), Check.row(2));
        check.due("0 by 2", x.alike(), 0);
        Check.wish(x, Check.row(0, 1), Check.row());
        check.due("BELOW is 0", x.alike(), -3);
        Check.wish(x, Check.row(0, 0, 0, 0, 0, 0, 1), Check.row(0, 0, 0, 0, 0, 1));
        check.due("of greater powers", x.alike(), 1);
        check.due("count(6)", x.count(6), 1);
    }

    private static void take() {
        LadderMaker x = new LadderMaker();
        Check.wish(x, Check.row(7), Check.row(7));
        check.due("no ARMS", x.take(), -3);
        x.arm(0, 9, 0);
        check.due("take()", x.take(), 1);
        check.wishIs("taken", x, Check.row(0, 9), Check.row(1));
        x.arm(0, 1, 0);
        check.due("10 is OVER", x.take(), -5);
        check.wishIs("refused", x, Check.row(0, 9), Check.row(1));
        LadderMaker y = ladder(0, 0, 1, 1, 0, 1);
        check.due("take(), BELOW greater", y.take(), 2);
        check.wishIs("taken", y, Check.row(0, 2), Check.row(0, 0, 1));
        LadderMaker z = ladder(1, 5, 2);
        check.due("BELOW fits, ABOVE is OVER", z.take(), -5);
        z.turn();
        check.wishIs("refused", z, NO, NO);
    }
}
