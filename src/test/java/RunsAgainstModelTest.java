import java.util.TreeMap;

/** Long runs of calls, set against the model call by call; the numbers come from a fixed row, so each run is the same. */
public final class RunsAgainstModelTest {
    private static final Check check = new Check();
    private static final TreeMap<String, Integer> seen = new TreeMap<>();
    private static long seed = 20261117;

    private static int below(int n) {
        seed = seed * 6364136223846793005L + 1442695040888963407L;
        return (int) ((seed >>> 33) % n);
    }

    private static int from(int low, int high) {
        return low + below(high - low + 1);
    }

    /** Mostly as told, now and then beside it or far off. */
    private static int near(int low, int high) {
        int r = below(40);
        if (r == 0) return low - 1;
        if (r == 1) return high + 1;
        if (r == 2) return below(2) == 0 ? Integer.MIN_VALUE : Integer.MAX_VALUE;
        return from(low, high);
    }

    private LadderMaker x = new LadderMaker();
    private Model m = new Model();
    private int run;

    private void due(String call, long got, long want) {
        check.due("run " + run + ": " + call, got, want);
    }

    private void tell(int which, int power, int v) {
        due("tell(" + which + ", " + power + ", " + v + ")", x.tell(which, power, v), m.tell(which, power, v));
    }

    private void clearWish() {
        for (int p = 0; p <= 6; p++) { tell(0, p, 0); tell(1, p, 0); }
    }

    /** LAWFUL, or nearly always so, with numbers of all kinds. */
    private void wishOfParities() {
        clearWish();
        int odd = below(2), most = from(1, 9), least = below(4) == 0 ? -most : below(2);
        int top = from(1, 6);
        for (int p = 0; p <= top; p++) tell(p % 2 == odd ? 0 : 1, p, from(least, most));
    }

    /** A product of (v x and u)s by another such product, with an s above or below: poles that are fractions. */
    private void wishOfFactors() {
        int[] g = { from(1, 4), 0, 0, 0 }, h = { from(1, 3), 0, 0, 0 };
        int most = from(1, 4);
        int ng = below(4), nh = below(4);
        for (int i = 0; i < ng; i++) g = times(g, below(8) == 0 ? -from(1, most) : from(0, most), from(1, most));
        for (int i = 0; i < nh; i++) h = times(h, below(8) == 0 ? -from(1, most) : from(0, most), from(1, most));
        clearWish();
        int odd = below(2);
        for (int i = 0; i <= 3; i++) {
            if (2 * i + odd <= 6 && Math.abs(g[i]) <= 9) tell(0, 2 * i + odd, g[i]);
            if (2 * i + 1 - odd <= 6 && Math.abs(h[i]) <= 9) tell(1, 2 * i + 1 - odd, h[i]);
        }
    }

    /** All numbers by chance on one side, one or two poles that are fractions of greater numbers on the other: parts get unhandy. */
    private void wishOfPoles() {
        clearWish();
        int[] h = times(new int[] { 1, 0, 0, 0 }, from(1, 9), from(1, 9));
        if (below(3) == 0) h = times(new int[] { 1, 0, 0, 0 }, from(1, 3), from(1, 3));
        int[] two = times(h, from(1, 9), from(1, 4));
        if (Math.max(two[0], Math.max(two[1], two[2])) <= 9) h = two;
        int odd = below(2), which = below(2), top = from(0, 3), all = below(3);
        for (int i = 0; i <= 3; i++) {
            if (2 * i + odd <= 6) tell(which, 2 * i + odd, h[i]);
            if (2 * i + 1 - odd <= 6 && i <= top) tell(1 - which, 2 * i + 1 - odd, from(all == 0 ? -9 : 0, 9));
        }
    }

    private static int[] times(int[] p, int u, int v) {
        int[] r = new int[4];
        for (int i = 0; i < 4; i++) r[i] = p[i] * u + (i > 0 ? p[i - 1] * v : 0);
        return r;
    }

    /** THE WISH by a LADDER told arm by arm. */
    private void wishOfLadder() {
        for (int i = 0; i < 6; i++) due("back()", x.back(), m.back());
        int most = from(1, 3), arms = from(1, 5);
        for (int i = 0; i < arms; i++) arm(below(2), from(0, most), from(0, most));
        due("take()", x.take(), m.take());
        ask("after take()");
    }

    private void arm(int place, int coil, int capacitor) {
        due("arm(" + place + ", " + coil + ", " + capacitor + ")", x.arm(place, coil, capacitor), m.arm(place, coil, capacitor));
    }

    private void unfold(int way) {
        int answer = x.unfold(way);
        due("unfold(" + way + ")", answer, m.unfold(way));
        seen.merge("unfold(" + way + ") " + (answer >= 0 ? "done" : "" + answer), 1, Integer::sum);
        if (answer >= 0) {
            seen.merge("unfold(" + way + ") done with " + answer, 1, Integer::sum);
            due("alike() after unfold(" + way + ")", x.alike(), 1);
        }
    }

    private void unfoldAll() {
        for (int way = 0; way <= 3; way++) unfold(way);
    }

    private void ask(String when) {
        due("digest() " + when, x.digest(), m.digest());
    }

    private void anyCall() {
        int a = near(0, 2), b = near(0, 7), c = near(0, 14), d = near(0, 40), e = near(0, 40);
        switch (below(24)) {
            case 0: { int v = near(-9, 9); tell(near(0, 1), near(0, 6), v); break; }
            case 1: due("told(" + a + ", " + b + ")", x.told(a, b), m.told(a, b)); break;
            case 2: due("turn()", x.turn(), m.turn()); break;
            case 3: due("reverse()", x.reverse(), m.reverse()); break;
            case 4: due("read(" + a + ", " + d + ")", x.read(a, d), m.read(a, d)); break;
            case 5: due("info(" + b + ")", x.info(b), m.info(b)); break;
            case 6: {
                int n = near(1, 9), k = near(1, 9), w = near(0, 1);
                due("reactance(" + n + ", " + k + ", " + w + ")", x.reactance(n, k, w), m.reactance(n, k, w));
                break;
            }
            case 7: arm(near(0, 1), near(0, 9), near(0, 9)); break;
            case 8: due("back()", x.back(), m.back()); break;
            case 9: { int way = near(0, 3); due("would(" + way + ")", x.would(way), m.would(way)); unfold(way); break; }
            case 10: { int what = near(0, 4); due("element(" + b + ", " + what + ")", x.element(b, what), m.element(b, what)); break; }
            case 11: { int w = near(0, 1); due("fold(" + w + ", " + b + ")", x.fold(w, b), m.fold(w, b)); break; }
            case 12: due("alike()", x.alike(), m.alike()); break;
            case 13: due("take()", x.take(), m.take()); break;
            case 14: { int what = near(0, 3); due("bill(" + b + ", " + what + ")", x.bill(b, what), m.bill(b, what)); break; }
            case 15: due("values()", x.values(), m.values()); break;
            case 16: due("keep()", x.keep(), m.keep()); due("find()", x.find(), m.find()); break;
            case 17: due("kept(" + b + ", " + c + ")", x.kept(b, c), m.kept(b, c)); break;
            case 18: if (below(3) == 0) due("recall(" + b + ")", x.recall(b), m.recall(b)); break;
            case 19: due("sheet(" + a + ", " + d + ")", x.sheet(a, d), m.sheet(a, d)); break;
            case 20: if (below(4) == 0) due("lose(" + a + ")", x.lose(a), m.lose(a)); break;
            case 21: {
                int v = near(-9, 9);
                due("lay(" + a + ", " + d + ", " + v + ")", x.lay(a, d, v), m.lay(a, d, v));
                due("get(" + a + ", " + e + ")", x.get(a, e), m.get(a, e));
                break;
            }
            case 22: {
                int t = near(0, 2), n = near(0, 20);
                due("copy(" + a + ", " + d + ", " + t + ", " + e + ", " + n + ")", x.copy(a, d, t, e, n), m.copy(a, d, t, e, n));
                due("write(" + t + ")", x.write(t), m.write(t));
                break;
            }
            default: { int what = near(0, 8); due("count(" + what + ")", x.count(what), m.count(what)); }
        }
    }

    private void go(int number) {
        run = number;
        for (int part = 0; part < 3; part++) {
            switch (below(4)) {
                case 0: wishOfParities(); break;
                case 2: wishOfPoles(); break;
                case 1: wishOfFactors(); break;
                default: wishOfLadder();
            }
            unfoldAll();
            ask("after unfold()");
            for (int i = 0; i < 40; i++) anyCall();
            ask("after some calls");
        }
        for (int s = 0; s < 3; s++) {
            for (int i = 0; i < 40; i++) due("get(" + s + ", " + i + ")", x.get(s, i), m.get(s, i));
        }
        due("count(8)", x.count(8), m.count(8));
    }

    public static void main(String[] args) {
        for (int run = 1; run <= 2000; run++) new RunsAgainstModelTest().go(run);
        if (args.length > 0) System.out.println(seen);
        for (int way = 0; way <= 3; way++) {
            check.isTrue("unfold(" + way + ") was done", seen.getOrDefault("unfold(" + way + ") done", 0) > 100);
            check.isTrue("unfold(" + way + ") was OVER", seen.getOrDefault("unfold(" + way + ") -5", 0) > 0);
        }
        check.end();
    }
}
