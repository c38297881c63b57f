import java.math.BigInteger;
import java.util.ArrayList;
import java.util.List;
import java.util.TreeMap;

/**
 * The document told a second time, by other means than the program's (fractions of big whole
 * numbers, lists, nothing kept that can be worked out anew), for the tests to set the program against.
 */
final class Model {
    static final int NONE = -1, BAD = -2, NOT = -3, FULL = -4, OVER = -5, DARK = -6;

    /** A fraction in lowest terms. */
    record Q(BigInteger n, BigInteger d) implements Comparable<Q> {
        static Q of(BigInteger n, BigInteger d) {
            BigInteger g = n.gcd(d);
            if (d.signum() < 0) g = g.negate();
            return new Q(n.divide(g), d.divide(g));
        }
        static Q of(long n, long d) { return of(BigInteger.valueOf(n), BigInteger.valueOf(d)); }
        static final Q ZERO = of(0, 1), ONE = of(1, 1);
        Q plus(Q o) { return of(n.multiply(o.d).add(o.n.multiply(d)), d.multiply(o.d)); }
        Q minus(Q o) { return plus(o.negate()); }
        Q times(Q o) { return of(n.multiply(o.n), d.multiply(o.d)); }
        Q by(Q o) { return of(n.multiply(o.d), d.multiply(o.n)); }
        Q negate() { return new Q(n.negate(), d); }
        int sign() { return n.signum(); }
        boolean handy() {
            BigInteger most = BigInteger.valueOf(99);
            return n.compareTo(most) <= 0 && d.compareTo(most) <= 0;
        }
        public int compareTo(Q o) { return n.multiply(o.d).compareTo(o.n.multiply(d)); }
    }

    /** A polynomial, least power first, the last number not 0. */
    static final class P {
        final List<Q> c = new ArrayList<>();
        static P of(Q... numbers) {
            P p = new P();
            for (Q q : numbers) p.c.add(q);
            return p.trim();
        }
        static P of(int[] numbers) {
            P p = new P();
            for (int v : numbers) p.c.add(Q.of(v, 1));
            return p.trim();
        }
        P trim() {
            while (!c.isEmpty() && c.get(c.size() - 1).sign() == 0) c.remove(c.size() - 1);
            return this;
        }
        int degree() { return c.size() - 1; }
        int least() {
            for (int i = 0; i < c.size(); i++) if (c.get(i).sign() != 0) return i;
            return -1;
        }
        Q at(int i) { return i >= 0 && i < c.size() ? c.get(i) : Q.ZERO; }
        P plus(P o) {
            P r = new P();
            for (int i = 0; i < Math.max(c.size(), o.c.size()); i++) r.c.add(at(i).plus(o.at(i)));
            return r.trim();
        }
        P times(P o) {
            P r = new P();
            for (int i = 0; i < c.size() + o.c.size(); i++) {
                Q sum = Q.ZERO;
                for (int k = 0; k <= i; k++) sum = sum.plus(at(k).times(o.at(i - k)));
                r.c.add(sum);
            }
            return r.trim();
        }
        P scaled(Q k) { return times(P.of(k)); }
        P shifted(int by) {
            P r = new P();
            for (int i = 0; i < c.size() + Math.max(by, 0); i++) r.c.add(at(i - by));
            return r.trim();
        }
        Q value(Q x) {
            Q sum = Q.ZERO, power = Q.ONE;
            for (Q q : c) { sum = sum.plus(q.times(power)); power = power.times(x); }
            return sum;
        }
        P derivative() {
            P r = new P();
            for (int i = 1; i < c.size(); i++) r.c.add(c.get(i).times(Q.of(i, 1)));
            return r.trim();
        }
        boolean only(int parity) {
            for (int i = 0; i < c.size(); i++) if (i % 2 != parity && c.get(i).sign() != 0) return false;
            return !c.isEmpty();
        }
        boolean same(P o) { return plus(o.scaled(Q.of(-1, 1))).c.isEmpty(); }
    }

    /** null: without. */
    record Arm(int place, Q coil, Q capacitor) {
        int item(int what) {
            Q part = what <= 2 ? coil : capacitor;
            if (what == 0) return place;
            if (part == null) return 0;
            return (what % 2 == 1 ? part.n : part.d).intValueExact();
        }
    }

    private int[] above = new int[7], below = new int[7];
    private List<Arm> ladder = new ArrayList<>();
    private final List<int[]> memory = new ArrayList<>();
    private final List<Integer> times = new ArrayList<>();
    private final long[][] sheets = new long[3][];
    private int latest = 0;

    private static long asLong(int refusal) { return Long.MIN_VALUE - refusal; }
    private int find(int number) { latest = number; return -10 - number; }
    private int[] side(int which) { return which == 0 ? above : below; }
    private P a() { return P.of(above); }
    private P b() { return P.of(below); }
    private boolean lawful() {
        return a().only(0) && b().only(1) || a().only(1) && b().only(0);
    }

    int tell(int which, int power, int v) {
        if (which < 0 || which > 1 || power < 0 || power > 6 || v < -9 || v > 9) return Integer.MIN_VALUE;
        int was = side(which)[power];
        side(which)[power] = v;
        return was;
    }

    int told(int which, int power) {
        if (which < 0 || which > 1 || power < 0 || power > 6) return Integer.MIN_VALUE;
        return side(which)[power];
    }

    int turn() {
        int[] spare = above;
        above = below;
        below = spare;
        return lawful() ? 1 : 0;
    }

    int reverse() {
        int g = Math.max(a().degree(), b().degree());
        if (g < 0) return NOT;
        int[] na = new int[7], nb = new int[7];
        for (int p = 0; p <= g; p++) { na[g - p] = above[p]; nb[g - p] = below[p]; }
        above = na;
        below = nb;
        return g;
    }

    int read(int s, int i) {
        if (s < 0 || s > 2) return BAD;
        if (sheets[s] == null) return find(1);
        if (i < 0 || (long) i + 14 > sheets[s].length) return find(2);
        for (int k = 0; k < 14; k++) if (Math.abs(sheets[s][i + k]) > 9) return BAD;
        for (int k = 0; k < 7; k++) { above[k] = (int) sheets[s][i + k]; below[k] = (int) sheets[s][i + 7 + k]; }
        return 14;
    }

    int info(int what) {
        return switch (what) {
            case 0 -> a().degree();
            case 1 -> b().degree();
            case 2 -> lawful() ? 1 : 0;
            case 3 -> a().least();
            case 4 -> b().least();
            default -> -9;
        };
    }

    /** The value at j W, which is real (EVEN) or j times a real number (ODD): that number. */
    private static Q atJ(P p, Q w) {
        Q sum = Q.ZERO, power = Q.ONE;
        for (int i = 0; i <= p.degree(); i++) {
            sum = i % 4 < 2 ? sum.plus(p.at(i).times(power)) : sum.minus(p.at(i).times(power));
            power = power.times(w);
        }
        return sum;
    }

    long reactance(int n, int d, int what) {
        if (n < 1 || n > 9 || d < 1 || d > 9 || what < 0 || what > 1) return asLong(BAD);
        if (!lawful()) return asLong(NOT);
        Q w = Q.of(n, d), below = atJ(b(), w);
        if (below.sign() == 0) return asLong(NOT);
        Q x = atJ(a(), w).by(below);
        if (b().only(1)) x = x.negate();
        return (what == 0 ? x.n : x.d).longValueExact();
    }

    private static int valuesIn(List<Arm> arms) {
        int many = 0;
        for (Arm arm : arms) many += (arm.coil != null ? 1 : 0) + (arm.capacitor != null ? 1 : 0);
        return many;
    }

    int arm(int place, int coil, int capacitor) {
        if (place < 0 || place > 1 || coil < 0 || coil > 9 || capacitor < 0 || capacitor > 9 || coil + capacitor == 0) return BAD;
        Arm arm = new Arm(place, coil == 0 ? null : Q.of(coil, 1), capacitor == 0 ? null : Q.of(capacitor, 1));
        if (valuesIn(ladder) + valuesIn(List.of(arm)) > 6) return FULL;
        ladder.add(arm);
        return ladder.size() - 1;
    }

    int back() {
        if (ladder.isEmpty()) return NOT;
        ladder.remove(ladder.size() - 1);
        return ladder.size();
    }

    int unfold(int way) {
        List<Arm> arms = new ArrayList<>();
        int answer = attempt(way, arms);
        if (answer >= 0) ladder = arms;
        return answer;
    }

    int would(int way) { return attempt(way, new ArrayList<>()); }

    private int attempt(int way, List<Arm> arms) {
        if (way < 0 || way > 3) return BAD;
        if (!lawful()) return NOT;
        int refusal = switch (way) {
            case 0 -> fromGreatest(arms);
            case 1 -> fromLeast(arms);
            case 2 -> byPoles(a(), b(), 0, arms);
            default -> byPoles(b(), a(), 1, arms);
        };
        return refusal != 0 ? refusal : valuesIn(arms);
    }

    private int fromGreatest(List<Arm> arms) {
        boolean series = a().degree() > b().degree();
        P p = series ? a() : b(), q = series ? b() : a();
        for (int step = 0; q.degree() >= 0; step++) {
            if (p.degree() != q.degree() + 1) return -100 - step;
            Q k = p.at(p.degree()).by(q.at(q.degree()));
            if (k.sign() <= 0) return -100 - step;
            if (!k.handy()) return OVER;
            arms.add(series ? new Arm(0, k, null) : new Arm(1, null, k));
            P next = p.plus(q.shifted(1).scaled(k.negate()));
            p = q;
            q = next;
            series = !series;
        }
        return 0;
    }

    private int fromLeast(List<Arm> arms) {
        boolean series = a().least() < b().least();
        P p = series ? a() : b(), q = series ? b() : a();
        for (int step = 0; q.degree() >= 0; step++) {
            if (p.least() != q.least() - 1) return -100 - step;
            Q k = p.at(p.least()).by(q.at(q.least()));
            if (k.sign() <= 0) return -100 - step;
            Q value = Q.ONE.by(k);
            if (!value.handy()) return OVER;
            arms.add(series ? new Arm(0, null, value) : new Arm(1, value, null));
            P next = p.plus(q.shifted(-1).scaled(k.negate()));
            p = q;
            q = next;
            series = !series;
        }
        return 0;
    }

    private static P inX(P evenOne) {
        P r = new P();
        for (int i = 0; i <= evenOne.degree(); i += 2) r.c.add(evenOne.at(i));
        return r.trim();
    }

    /** p and how often H can be divided by x and p, the least p first. */
    private static TreeMap<Q, Integer> roots(P h) {
        TreeMap<Q, Integer> found = new TreeMap<>();
        for (int sign = -1; sign <= 1; sign += 2) {
            for (int u = 1; u <= 9; u++) {
                for (int v = 1; v <= 9; v++) {
                    Q p = Q.of(sign * u, v);
                    int often = 0;
                    for (P d = h; d.degree() >= 0 && d.value(p.negate()).sign() == 0; d = d.derivative()) often++;
                    if (often > 0) found.put(p, often);
                }
            }
        }
        return found;
    }

    private int byPoles(P top, P bottom, int place, List<Arm> arms) {
        P g = top.only(0) ? inX(top) : inX(top.shifted(1));
        P h = top.only(0) ? inX(bottom.shifted(-1)) : inX(bottom);
        while (g.least() > 0 && h.least() > 0) { g = g.shifted(-1); h = h.shifted(-1); }
        TreeMap<Q, Integer> roots = roots(h);
        int known = h.least();
        for (int often : roots.values()) known += often;
        if (known != h.degree()) return DARK;
        if (g.degree() > h.degree()) {
            Q k = g.at(g.degree()).by(h.at(h.degree()));
            if (g.degree() > h.degree() + 1 || k.sign() <= 0) return -100;
            if (!k.handy()) return OVER;
            arms.add(place == 0 ? new Arm(0, k, null) : new Arm(1, null, k));
        }
        if (h.least() != 0) return -101;
        if (g.at(0).sign() != 0) {
            Q k = g.at(0).by(h.at(0));
            if (k.sign() <= 0) return -101;
            Q value = Q.ONE.by(k);
            if (!value.handy()) return OVER;
            arms.add(place == 0 ? new Arm(0, null, value) : new Arm(1, value, null));
        }
        int step = 1;
        for (Q p : roots.keySet()) {
            step++;
            if (p.sign() <= 0 || roots.get(p) > 1) return -100 - step;
            // where H has a root but once, H divided by x and p is there what its derivative is
            Q k = g.value(p.negate()).by(p.negate().times(h.derivative().value(p.negate())));
            if (k.sign() == 0) continue;
            if (k.sign() < 0) return -100 - step;
            Q one = k.by(p), other = Q.ONE.by(k);
            if (!one.handy() || !other.handy()) return OVER;
            arms.add(place == 0 ? new Arm(0, one, other) : new Arm(1, other, one));
        }
        return 0;
    }

    int element(int k, int what) {
        if (k < 0 || k >= ladder.size() || what < 0 || what > 4) return BAD;
        return ladder.get(k).item(what);
    }

    private static BigInteger[] asPair(BigInteger[] numbers) {
        BigInteger g = BigInteger.ZERO;
        for (BigInteger v : numbers) g = g.gcd(v);
        int lead = -1;
        for (int i = 0; i < 7; i++) if (numbers[i].signum() != 0) lead = i;
        for (int i = 7; i < 14; i++) if (numbers[i].signum() != 0) lead = i;
        if (lead < 0) return numbers;
        if (numbers[lead].signum() < 0) g = g.negate();
        BigInteger[] r = new BigInteger[14];
        for (int i = 0; i < 14; i++) r[i] = numbers[i].divide(g);
        return r;
    }

    /** FOLDED, as fractions of polynomials, made whole at the end alone: that is AS A PAIR each time, too. */
    private BigInteger[] folded() {
        P a = P.of(), b = P.of();
        P s = P.of(Q.ZERO, Q.ONE), one = P.of(Q.ONE);
        for (int k = ladder.size() - 1; k >= 0; k--) {
            Arm arm = ladder.get(k);
            boolean series = arm.place == 0;
            if (k == ladder.size() - 1) {
                a = series ? P.of() : one;
                b = series ? one : P.of();
            }
            P p, q;
            P l = arm.coil == null ? null : s.scaled(arm.coil), c = arm.capacitor == null ? null : s.scaled(arm.capacitor);
            if (l != null && c != null) {
                p = series ? l : c;
                q = l.times(c).plus(one);
            } else if (series) {
                p = l != null ? l : one;
                q = l != null ? one : c;
            } else {
                p = c != null ? c : one;
                q = c != null ? one : l;
            }
            if (series) {
                a = a.times(q).plus(p.times(b));
                b = b.times(q);
            } else {
                b = b.times(q).plus(p.times(a));
                a = a.times(q);
            }
        }
        BigInteger all = BigInteger.ONE;
        for (int i = 0; i < 7; i++) all = all.multiply(a.at(i).d).multiply(b.at(i).d);
        BigInteger[] r = new BigInteger[14];
        for (int i = 0; i < 7; i++) {
            r[i] = a.at(i).n.multiply(all).divide(a.at(i).d);
            r[7 + i] = b.at(i).n.multiply(all).divide(b.at(i).d);
        }
        if (a.degree() > 6 || b.degree() > 6) throw new IllegalStateException("more than power 6");
        return asPair(r);
    }

    long fold(int which, int power) {
        if (which < 0 || which > 1 || power < 0 || power > 6 || ladder.isEmpty()) return 0;
        return folded()[7 * which + power].longValueExact();
    }

    int alike() {
        if (ladder.isEmpty() || b().degree() < 0) return NOT;
        BigInteger[] f = folded();
        P fa = new P(), fb = new P();
        for (int i = 0; i < 7; i++) { fa.c.add(Q.of(f[i], BigInteger.ONE)); fb.c.add(Q.of(f[7 + i], BigInteger.ONE)); }
        return fa.times(b()).same(fb.times(a())) ? 1 : 0;
    }

    int take() {
        if (ladder.isEmpty()) return NOT;
        BigInteger[] f = folded();
        for (BigInteger v : f) if (v.abs().compareTo(BigInteger.valueOf(9)) > 0) return OVER;
        for (int i = 0; i < 7; i++) { above[i] = f[i].intValue(); below[i] = f[7 + i].intValue(); }
        return Math.max(a().degree(), b().degree());
    }

    private List<long[]> parts() {
        List<long[]> parts = new ArrayList<>();
        for (Arm arm : ladder) {
            for (int kind = 0; kind < 2; kind++) {
                if (arm.item(1 + 2 * kind) == 0) continue;
                long[] part = { kind, arm.item(1 + 2 * kind), arm.item(2 + 2 * kind), 1 };
                boolean known = false;
                for (long[] p : parts) {
                    if (p[0] == part[0] && p[1] == part[1] && p[2] == part[2]) { p[3]++; known = true; }
                }
                if (!known) parts.add(part);
            }
        }
        return parts;
    }

    int bill(int k, int what) {
        if (k < 0 || k >= parts().size() || what < 0 || what > 3) return BAD;
        return (int) parts().get(k)[what];
    }

    int values() {
        TreeMap<Q, Integer> different = new TreeMap<>();
        for (Arm arm : ladder) {
            if (arm.coil != null) different.put(arm.coil, 1);
            if (arm.capacitor != null) different.put(arm.capacitor, 1);
        }
        return different.size();
    }

    private int[] wishAsPair() {
        BigInteger[] numbers = new BigInteger[14];
        for (int i = 0; i < 7; i++) { numbers[i] = BigInteger.valueOf(above[i]); numbers[7 + i] = BigInteger.valueOf(below[i]); }
        BigInteger[] pair = asPair(numbers);
        int[] r = new int[14];
        for (int i = 0; i < 14; i++) r[i] = pair[i].intValueExact();
        return r;
    }

    int find() {
        for (int k = 0; k < memory.size(); k++) if (java.util.Arrays.equals(memory.get(k), wishAsPair())) return k;
        return NONE;
    }

    int keep() {
        int k = find();
        if (k < 0) {
            if (memory.size() == 12) return FULL;
            k = memory.size();
            memory.add(wishAsPair());
            times.add(0);
        }
        times.set(k, times.get(k) + 1);
        return k;
    }

    int kept(int k, int what) {
        if (k < 0 || k >= memory.size() || what < 0 || what > 14) return Integer.MIN_VALUE;
        return what == 0 ? times.get(k) : memory.get(k)[what - 1];
    }

    int recall(int k) {
        if (k < 0 || k >= memory.size()) return BAD;
        for (int i = 0; i < 7; i++) { above[i] = memory.get(k)[i]; below[i] = memory.get(k)[7 + i]; }
        return times.get(k);
    }

    int sheet(int s, int n) {
        if (s < 0 || s > 2 || n > 40) return BAD;
        if (n < 0) return find(3);
        sheets[s] = new long[n];
        return n;
    }

    int lose(int s) {
        if (s < 0 || s > 2) return BAD;
        if (sheets[s] == null) return find(1);
        int n = sheets[s].length;
        sheets[s] = null;
        return n;
    }

    int lay(int s, int i, int v) {
        if (s < 0 || s > 2) return BAD;
        if (sheets[s] == null) return find(1);
        if (i < 0 || i >= sheets[s].length) return find(2);
        sheets[s][i] = v;
        return 1;
    }

    long get(int s, int i) {
        if (s < 0 || s > 2) return asLong(BAD);
        if (sheets[s] == null) return asLong(find(1));
        if (i < 0 || i >= sheets[s].length) return asLong(find(2));
        return sheets[s][i];
    }

    int copy(int s, int i, int t, int j, int n) {
        if (s < 0 || s > 2 || t < 0 || t > 2) return BAD;
        if (sheets[s] == null || sheets[t] == null) return find(1);
        if (i < 0 || j < 0 || n < 0 || (long) i + n > sheets[s].length || (long) j + n > sheets[t].length) return find(2);
        long[] as = sheets[s].clone();
        for (int k = 0; k < n; k++) sheets[t][j + k] = as[i + k];
        return 1;
    }

    int write(int s) {
        if (s < 0 || s > 2) return BAD;
        if (sheets[s] == null) return find(1);
        int many = 0;
        for (int k = 0; k < ladder.size(); k++) {
            for (int what = 0; what < 5; what++) {
                if (many < sheets[s].length) sheets[s][many++] = element(k, what);
            }
        }
        return many;
    }

    int count(int what) {
        int sum = 0;
        switch (what) {
            case 0: return ladder.size();
            case 1: return valuesIn(ladder);
            case 2: return lawful() ? 1 : 0;
            case 3: return parts().size();
            case 4: return memory.size();
            case 5: for (int t : times) sum += t; return sum;
            case 6: return alike();
            case 7: for (long[] s : sheets) sum += s != null ? 1 : 0; return sum;
            case 8: return latest;
            default: return BAD;
        }
    }

    long digest() {
        List<Long> all = new ArrayList<>();
        for (int what = 0; what <= 7; what++) all.add((long) count(what));
        for (int p = 0; p <= 6; p++) {
            all.add((long) told(0, p));
            all.add((long) told(1, p));
            all.add(fold(0, p));
            all.add(fold(1, p));
        }
        for (int what = 0; what <= 4; what++) all.add((long) info(what));
        for (int way = 0; way <= 3; way++) all.add((long) would(way));
        for (int what = 0; what <= 1; what++) all.add(reactance(1, 1, what));
        for (int what = 0; what <= 1; what++) all.add(reactance(3, 2, what));
        for (int k = 0; k < ladder.size(); k++) for (int what = 0; what <= 4; what++) all.add((long) element(k, what));
        for (int k = 0; k < parts().size(); k++) for (int what = 0; what <= 3; what++) all.add((long) bill(k, what));
        all.add((long) values());
        all.add((long) find());
        for (int k = 0; k < memory.size(); k++) for (int what = 0; what <= 14; what++) all.add((long) kept(k, what));
        long h = 17;
        for (long v : all) h = 31 * h + v;
        return h;
    }
}
