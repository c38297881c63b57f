/**
 * Ladder filter maker: a wished impedance fraction unfolded into coils and capacitors by
 * continued division, and read back exactly.
 *
 * The words in capitals in the comments (ARM, VALUE, FOLDED ..) are those of the document.
 */
public final class LadderMaker {
    public static final int NONE = -1, BAD = -2, NOT = -3, FULL = -4, OVER = -5, DARK = -6;

    private static final int LEAST_INT = 1 << 31;
    private static final long LEAST_LONG = 1L << 63;

    private static final int POWERS = 7;
    private static final int GREATEST_NUMBER = 9;
    private static final int WISH_NUMBERS = 2 * POWERS;

    private static final int SERIES = 0;
    private static final int SHUNT = 1;
    private static final int MOST_VALUES = 6;
    private static final int ARM_ITEMS = 5;
    private static final int GREATEST_HANDY = 99;

    private static final int WAYS = 4;
    private static final int MOST_ROOTS = 3;
    private static final int GREATEST_IN_ROOT = 9;

    private static final int COIL = 0;
    private static final int CAPACITOR = 1;
    private static final int PART_ITEMS = 4;

    private static final int MOST_FRACTIONS = 12;
    private static final int FRACTION_ITEMS = 1 + WISH_NUMBERS;

    private static final int SHEETS = 3;
    private static final int MOST_ITEMS = 40;
    private static final int NULL_FINDING = 1;
    private static final int INDEX_FINDING = 2;
    private static final int SIZE_FINDING = 3;

    /* Two longs need fewer than a hundred divisions. */
    private static final int MOST_DIVISIONS = 200;

    private final Pair wish = new Pair();
    private final Ladder ladder = new Ladder();
    private final Folder folder = new Folder();
    private final Unfolder unfolder = new Unfolder();
    private final Bill parts = new Bill();
    private final Memory memory = new Memory();
    private final Sheets sheets = new Sheets();
    private final Reactance atFrequency = new Reactance();
    private int latestFinding = 0;

    public LadderMaker() {
    }

    // ---- the wish

    public int tell(int which, int power, int v) {
        if (!isPlace(which) || !isPower(power) || !isWishNumber(v)) {
            return LEAST_INT;
        }
        Polynomial side = wish.side(which);
        int before = (int) side.at(power);
        side.put(power, v);
        return before;
    }

    public int told(int which, int power) {
        if (!isPlace(which) || !isPower(power)) {
            return LEAST_INT;
        }
        return (int) wish.side(which).at(power);
    }

    public int turn() {
        wish.swap();
        return wish.isLawful() ? 1 : 0;
    }

    public int reverse() {
        int greatest = wish.greaterDegree();
        if (greatest == NONE) {
            return NOT;
        }
        wish.side(0).runBackwards(greatest);
        wish.side(1).runBackwards(greatest);
        return greatest;
    }

    public int read(int s, int i) {
        int refusal = sheetRefusal(s);
        if (refusal != 0) {
            return refusal;
        }
        if (!sheets.hasRun(s, i, WISH_NUMBERS)) {
            return finding(INDEX_FINDING);
        }
        for (int k = 0; k < WISH_NUMBERS; k++) {
            if (!isWishNumber(sheets.item(s, i + k))) {
                return BAD;
            }
        }
        for (int k = 0; k < WISH_NUMBERS; k++) {
            wish.putNumber(k, sheets.item(s, i + k));
        }
        return WISH_NUMBERS;
    }

    public int info(int what) {
        switch (what) {
            case 0:
                return wish.side(0).degree();
            case 1:
                return wish.side(1).degree();
            case 2:
                return wish.isLawful() ? 1 : 0;
            case 3:
                return wish.side(0).leastPower();
            case 4:
                return wish.side(1).leastPower();
            default:
                return -9;
        }
    }

    public long reactance(int n, int d, int what) {
        if (n < 1 || n > 9 || d < 1 || d > 9 || what < 0 || what > 1) {
            return asLong(BAD);
        }
        if (!wish.isLawful() || !atFrequency.workOut(wish, n, d)) {
            return asLong(NOT);
        }
        return what == 0 ? atFrequency.result.above : atFrequency.result.below;
    }

    // ---- the ladder

    public int arm(int place, int coil, int capacitor) {
        if (!isPlace(place) || coil < 0 || coil > 9 || capacitor < 0 || capacitor > 9) {
            return BAD;
        }
        if (coil == 0 && capacitor == 0) {
            return BAD;
        }
        int coilBelow = coil == 0 ? 0 : 1;
        int capacitorBelow = capacitor == 0 ? 0 : 1;
        if (!ladder.add(place, coil, coilBelow, capacitor, capacitorBelow)) {
            return FULL;
        }
        ladderChanged();
        return ladder.armCount - 1;
    }

    public int back() {
        if (ladder.armCount == 0) {
            return NOT;
        }
        ladder.dropLast();
        ladderChanged();
        return ladder.armCount;
    }

    public int unfold(int way) {
        int answer = would(way);
        if (answer >= 0) {
            ladder.load(unfolder.built);
            ladderChanged();
        }
        return answer;
    }

    public int would(int way) {
        if (way < 0 || way >= WAYS) {
            return BAD;
        }
        if (!wish.isLawful()) {
            return NOT;
        }
        if (way <= 1) {
            return unfolder.divideOn(wish, way == 0);
        }
        return unfolder.divideByPoles(wish, way == 2 ? SERIES : SHUNT);
    }

    public int element(int k, int what) {
        if (k < 0 || k >= ladder.armCount || what < 0 || what >= ARM_ITEMS) {
            return BAD;
        }
        return ladder.item(k, what);
    }

    public long fold(int which, int power) {
        if (!isPlace(which) || !isPower(power) || ladder.armCount == 0) {
            return 0;
        }
        return folder.folded.side(which).at(power);
    }

    public int alike() {
        if (ladder.armCount == 0 || wish.side(1).degree() == NONE) {
            return NOT;
        }
        return folder.folded.isFractionOf(wish) ? 1 : 0;
    }

    public int take() {
        if (ladder.armCount == 0) {
            return NOT;
        }
        for (int k = 0; k < WISH_NUMBERS; k++) {
            if (!isWishNumber(folder.folded.number(k))) {
                return OVER;
            }
        }
        wish.load(folder.folded);
        return wish.greaterDegree();
    }

    // ---- the bill

    public int bill(int k, int what) {
        if (k < 0 || k >= parts.partCount || what < 0 || what >= PART_ITEMS) {
            return BAD;
        }
        return parts.item(k, what);
    }

    public int values() {
        return parts.differentValues();
    }

    // ---- the memory

    public int keep() {
        return memory.keepOnce(wish);
    }

    public int find() {
        return memory.numberOf(wish);
    }

    public int kept(int k, int what) {
        if (!memory.holds(k) || what < 0 || what >= FRACTION_ITEMS) {
            return LEAST_INT;
        }
        return memory.item(k, what);
    }

    public int recall(int k) {
        if (!memory.holds(k)) {
            return BAD;
        }
        for (int i = 0; i < WISH_NUMBERS; i++) {
            wish.putNumber(i, memory.item(k, 1 + i));
        }
        return memory.item(k, 0);
    }

    // ---- sheets

    public int sheet(int s, int n) {
        if (!sheets.isSheet(s) || n > MOST_ITEMS) {
            return BAD;
        }
        if (n < 0) {
            return finding(SIZE_FINDING);
        }
        sheets.renew(s, n);
        return n;
    }

    public int lose(int s) {
        int refusal = sheetRefusal(s);
        if (refusal != 0) {
            return refusal;
        }
        int size = sheets.size(s);
        sheets.forget(s);
        return size;
    }

    public int lay(int s, int i, int v) {
        int refusal = itemRefusal(s, i);
        if (refusal != 0) {
            return refusal;
        }
        sheets.put(s, i, v);
        return 1;
    }

    public long get(int s, int i) {
        int refusal = itemRefusal(s, i);
        return refusal != 0 ? asLong(refusal) : sheets.item(s, i);
    }

    public int copy(int s, int i, int t, int j, int n) {
        if (!sheets.isSheet(s) || !sheets.isSheet(t)) {
            return BAD;
        }
        if (sheets.isLost(s) || sheets.isLost(t)) {
            return finding(NULL_FINDING);
        }
        if (!sheets.hasRun(s, i, n) || !sheets.hasRun(t, j, n)) {
            return finding(INDEX_FINDING);
        }
        sheets.move(s, i, t, j, n);
        return 1;
    }

    public int write(int s) {
        int refusal = sheetRefusal(s);
        if (refusal != 0) {
            return refusal;
        }
        int many = Math.min(sheets.size(s), ladder.armCount * ARM_ITEMS);
        for (int i = 0; i < many; i++) {
            sheets.put(s, i, ladder.item(i / ARM_ITEMS, i % ARM_ITEMS));
        }
        return many;
    }

    public int count(int what) {
        switch (what) {
            case 0:
                return ladder.armCount;
            case 1:
                return ladder.valueCount();
            case 2:
                return wish.isLawful() ? 1 : 0;
            case 3:
                return parts.partCount;
            case 4:
                return memory.fractionCount;
            case 5:
                return memory.timesOfAll();
            case 6:
                return alike();
            case 7:
                return sheets.notLost();
            case 8:
                return latestFinding;
            default:
                return BAD;
        }
    }

    public long digest() {
        long h = 17;
        for (int what = 0; what <= 7; what++) {
            h = 31 * h + count(what);
        }
        for (int power = 0; power < POWERS; power++) {
            h = 31 * h + told(0, power);
            h = 31 * h + told(1, power);
            h = 31 * h + fold(0, power);
            h = 31 * h + fold(1, power);
        }
        for (int what = 0; what <= 4; what++) {
            h = 31 * h + info(what);
        }
        for (int way = 0; way < WAYS; way++) {
            h = 31 * h + would(way);
        }
        h = 31 * h + reactance(1, 1, 0);
        h = 31 * h + reactance(1, 1, 1);
        h = 31 * h + reactance(3, 2, 0);
        h = 31 * h + reactance(3, 2, 1);
        return digestOfRows(h);
    }

    private long digestOfRows(long begun) {
        long h = begun;
        for (int k = 0; k < ladder.armCount; k++) {
            for (int what = 0; what < ARM_ITEMS; what++) {
                h = 31 * h + element(k, what);
            }
        }
        for (int k = 0; k < parts.partCount; k++) {
            for (int what = 0; what < PART_ITEMS; what++) {
                h = 31 * h + bill(k, what);
            }
        }
        h = 31 * h + values();
        h = 31 * h + find();
        for (int k = 0; k < memory.fractionCount; k++) {
            for (int what = 0; what < FRACTION_ITEMS; what++) {
                h = 31 * h + kept(k, what);
            }
        }
        return h;
    }

    /** FOLDED and the BILL are asked far more often than THE LADDER changes. */
    private void ladderChanged() {
        folder.foldUp(ladder);
        parts.countUp(ladder);
    }

    private int finding(int number) {
        latestFinding = number;
        return -10 - number;
    }

    /** 0: the SHEET is there and not LOST. */
    private int sheetRefusal(int s) {
        if (!sheets.isSheet(s)) {
            return BAD;
        }
        return sheets.isLost(s) ? finding(NULL_FINDING) : 0;
    }

    /** 0: there is such an item. */
    private int itemRefusal(int s, int i) {
        int refusal = sheetRefusal(s);
        if (refusal != 0) {
            return refusal;
        }
        return sheets.hasRun(s, i, 1) ? 0 : finding(INDEX_FINDING);
    }

    private static long asLong(int refusal) {
        return LEAST_LONG - refusal;
    }

    /** ABOVE and BELOW, and SERIES and SHUNT, are told as 0 and 1. */
    private static boolean isPlace(int place) {
        return place == 0 || place == 1;
    }

    private static boolean isPower(int power) {
        return power >= 0 && power < POWERS;
    }

    private static boolean isWishNumber(long v) {
        return v >= -GREATEST_NUMBER && v <= GREATEST_NUMBER;
    }

    private static long commonDivisor(long a, long b) {
        long greater = Math.abs(a);
        long less = Math.abs(b);
        for (int i = 0; i < MOST_DIVISIONS && less != 0; i++) {
            long rest = greater % less;
            greater = less;
            less = rest;
        }
        return greater;
    }

    /** A fraction in lowest terms; above has the sign. */
    private static final class Fraction {
        private long above = 0;
        private long below = 1;

        /** With b 0 it becomes 0; all callers look at b ahead. */
        void put(long a, long b) {
            long divisor = commonDivisor(a, b);
            if (b == 0 || divisor == 0) {
                above = 0;
                below = 1;
                return;
            }
            above = b < 0 ? -(a / divisor) : a / divisor;
            below = Math.abs(b / divisor);
        }

        boolean isHandy() {
            return above > 0 && above <= GREATEST_HANDY && below <= GREATEST_HANDY;
        }
    }

    /** A polynomial of powers 0 to 6; outside of these its numbers are 0. */
    private static final class Polynomial {
        private final long[] numbers = new long[POWERS];

        long at(int power) {
            return power >= 0 && power < POWERS ? numbers[power] : 0;
        }

        void put(int power, long v) {
            if (power >= 0 && power < POWERS) {
                numbers[power] = v;
            }
        }

        void clear() {
            for (int i = 0; i < POWERS; i++) {
                numbers[i] = 0;
            }
        }

        void load(Polynomial other) {
            for (int i = 0; i < POWERS; i++) {
                numbers[i] = other.numbers[i];
            }
        }

        /** The numbers of powers start, start + 2 .. of another one become those of 0, 1 .. */
        void loadEveryOther(Polynomial other, int start) {
            for (int i = 0; i < POWERS; i++) {
                numbers[i] = other.at(start + 2 * i);
            }
        }

        int degree() {
            for (int i = POWERS - 1; i >= 0; i--) {
                if (numbers[i] != 0) {
                    return i;
                }
            }
            return NONE;
        }

        int leastPower() {
            for (int i = 0; i < POWERS; i++) {
                if (numbers[i] != 0) {
                    return i;
                }
            }
            return NONE;
        }

        /** EVEN (parity 0) or ODD (1). */
        boolean isOfParity(int parity) {
            boolean some = false;
            for (int i = 0; i < POWERS; i++) {
                if (numbers[i] != 0) {
                    if (i % 2 != parity) {
                        return false;
                    }
                    some = true;
                }
            }
            return some;
        }

        void runBackwards(int greatest) {
            for (int low = 0; low < POWERS && low < greatest - low; low++) {
                long spare = at(low);
                put(low, at(greatest - low));
                put(greatest - low, spare);
            }
        }

        void addProduct(Polynomial a, Polynomial b) {
            for (int i = 0; i < POWERS; i++) {
                for (int k = 0; k + i < POWERS; k++) {
                    numbers[k + i] += a.numbers[i] * b.numbers[k];
                }
            }
        }

        void multiplyBy(long factor) {
            for (int i = 0; i < POWERS; i++) {
                numbers[i] *= factor;
            }
        }

        /** All numbers can be divided by it. */
        void divideBy(long divisor) {
            for (int i = 0; i < POWERS && divisor != 0; i++) {
                numbers[i] /= divisor;
            }
        }

        /** The value at - u by v, times v v v; it has powers 0 to 3 alone. */
        long valueAtMinus(long u, long v) {
            long value = 0;
            long scale = 1;
            for (int i = MOST_ROOTS; i >= 0; i--) {
                value = -u * value + scale * numbers[i];
                scale *= v;
            }
            return value;
        }

        /** Divided by v x and u, where - u by v, in lowest terms, is a root: so numbers stay whole. */
        void divideByRoot(long u, long v) {
            long quotient = 0;
            for (int i = POWERS - 1; i >= 0 && v != 0; i--) {
                long next = (numbers[i] - u * quotient) / v;
                numbers[i] = quotient;
                quotient = next;
            }
        }
    }

    /** ABOVE and BELOW. */
    private static final class Pair {
        private Polynomial above = new Polynomial();
        private Polynomial below = new Polynomial();

        Polynomial side(int which) {
            return which == 0 ? above : below;
        }

        /** Numbers 0 to 6 are those of ABOVE, 7 to 13 those of BELOW. */
        long number(int k) {
            return k < POWERS ? above.at(k) : below.at(k - POWERS);
        }

        void putNumber(int k, long v) {
            if (k < POWERS) {
                above.put(k, v);
            } else {
                below.put(k - POWERS, v);
            }
        }

        void load(Pair other) {
            above.load(other.above);
            below.load(other.below);
        }

        void swap() {
            Polynomial spare = above;
            above = below;
            below = spare;
        }

        boolean isLawful() {
            return above.isOfParity(0) && below.isOfParity(1)
                || above.isOfParity(1) && below.isOfParity(0);
        }

        int greaterDegree() {
            return Math.max(above.degree(), below.degree());
        }

        void becomeAsPair() {
            long divisor = 0;
            for (int k = 0; k < WISH_NUMBERS && divisor != 1; k++) {
                divisor = commonDivisor(divisor, number(k));
            }
            int degree = below.degree();
            long leading = degree == NONE ? above.at(above.degree()) : below.at(degree);
            if (leading < 0) {
                divisor = -divisor;
            }
            if (divisor != 1) {
                above.divideBy(divisor);
                below.divideBy(divisor);
            }
        }

        boolean isFractionOf(Pair other) {
            for (int power = 0; power <= 2 * (POWERS - 1); power++) {
                long difference = 0;
                for (int i = 0; i < POWERS; i++) {
                    difference += above.at(i) * other.below.at(power - i);
                    difference -= other.above.at(i) * below.at(power - i);
                }
                if (difference != 0) {
                    return false;
                }
            }
            return true;
        }

        /**
         * Becomes BELOW by (ABOVE less K times BELOW moved up by so many powers), both times K's
         * below, so that numbers stay whole.
         */
        void goOn(Fraction k, int up) {
            above.multiplyBy(k.below);
            for (int i = 0; i < POWERS; i++) {
                above.put(i, above.at(i) - k.above * below.at(i - up));
            }
            below.multiplyBy(k.below);
            swap();
        }
    }

    /** THE LADDER: of each ARM what element() tells. */
    private static final class Ladder {
        private final int[][] arms = new int[MOST_VALUES][ARM_ITEMS];
        private int armCount = 0;

        int item(int k, int what) {
            boolean there = k >= 0 && k < armCount && k < MOST_VALUES && what >= 0 && what < ARM_ITEMS;
            return there ? arms[k][what] : 0;
        }

        int valueCount() {
            int many = 0;
            for (int k = 0; k < armCount && k < MOST_VALUES; k++) {
                many += (arms[k][1] != 0 ? 1 : 0) + (arms[k][3] != 0 ? 1 : 0);
            }
            return many;
        }

        /** A VALUE 0 by 0 is none. Answers whether there was room. */
        boolean add(int place, int coilAbove, int coilBelow, int capacitorAbove, int capacitorBelow) {
            int more = (coilAbove != 0 ? 1 : 0) + (capacitorAbove != 0 ? 1 : 0);
            if (armCount >= MOST_VALUES || valueCount() + more > MOST_VALUES) {
                return false;
            }
            int[] arm = arms[armCount];
            arm[0] = place;
            arm[1] = coilAbove;
            arm[2] = coilBelow;
            arm[3] = capacitorAbove;
            arm[4] = capacitorBelow;
            armCount++;
            return true;
        }

        void dropLast() {
            if (armCount > 0) {
                armCount--;
            }
        }

        void clear() {
            armCount = 0;
        }

        void load(Ladder other) {
            armCount = other.armCount;
            for (int k = 0; k < armCount && k < MOST_VALUES; k++) {
                for (int what = 0; what < ARM_ITEMS; what++) {
                    arms[k][what] = other.item(k, what);
                }
            }
        }
    }

    /**
     * Multiplies THE LADDER back to a fraction.
     *
     * What a COIL is in a SERIES ARM, a CAPACITOR is in a SHUNT ARM: both are called RISING here
     * (VALUE times s), and the other ones FALLING (1 by VALUE times s).
     */
    private static final class Folder {
        private final Pair folded = new Pair();
        private final Pair arm = new Pair();
        private final Pair sum = new Pair();

        void foldUp(Ladder ladder) {
            int last = ladder.armCount - 1;
            int lastPlace = ladder.item(last, 0);
            folded.above.clear();
            folded.below.clear();
            folded.side(lastPlace == SERIES ? 1 : 0).put(0, 1);
            for (int k = last; k >= 0; k--) {
                loadArm(ladder, k);
                boolean shunt = ladder.item(k, 0) == SHUNT;
                if (shunt) {
                    folded.swap();
                }
                addArm();
                if (shunt) {
                    folded.swap();
                }
                folded.becomeAsPair();
            }
        }

        private void loadArm(Ladder ladder, int k) {
            int rising = ladder.item(k, 0) == SERIES ? 1 : 3;
            int falling = 4 - rising;
            long risingAbove = ladder.item(k, rising);
            long risingBelow = ladder.item(k, rising + 1);
            long fallingAbove = ladder.item(k, falling);
            long fallingBelow = ladder.item(k, falling + 1);
            arm.above.clear();
            arm.below.clear();
            if (fallingAbove == 0) {
                arm.above.put(1, risingAbove);
                arm.below.put(0, risingBelow);
            } else if (risingAbove == 0) {
                arm.above.put(0, fallingBelow);
                arm.below.put(1, fallingAbove);
            } else {
                arm.above.put(1, risingAbove * fallingBelow);
                arm.below.put(0, risingBelow * fallingBelow);
                arm.below.put(2, risingAbove * fallingAbove);
            }
        }

        private void addArm() {
            sum.above.clear();
            sum.above.addProduct(folded.above, arm.below);
            sum.above.addProduct(arm.above, folded.below);
            sum.below.clear();
            sum.below.addProduct(folded.below, arm.below);
            folded.load(sum);
        }
    }

    /** Unfolds a LAWFUL fraction into a ladder of its own (RISING and FALLING: as at Folder). */
    private static final class Unfolder {
        private final Ladder built = new Ladder();
        private final Pair work = new Pair();
        private final Pair inX = new Pair();
        private final Polynomial rest = new Polynomial();
        private final Fraction k = new Fraction();
        private final Fraction byRoot = new Fraction();
        private final int[] rootAbove = new int[MOST_ROOTS];
        private final int[] rootBelow = new int[MOST_ROOTS];
        private final int[] rootTimes = new int[MOST_ROOTS];
        private int rootCount = 0;

        /**
         * Ways 0 (from the greatest powers) and 1 (from the least): how many VALUES were built, or
         * the refusal.
         */
        int divideOn(Pair wish, boolean greatest) {
            begin(wish);
            int up = greatest ? 1 : -1;
            int place = SERIES;
            if ((endOf(work.above, greatest) > endOf(work.below, greatest)) != greatest) {
                work.swap();
                place = SHUNT;
            }
            for (int step = 0; step <= MOST_VALUES && work.below.degree() != NONE; step++) {
                int end = endOf(work.below, greatest);
                k.put(work.above.at(end + up), work.below.at(end));
                if (endOf(work.above, greatest) != end + up || k.above <= 0) {
                    return unlawful(step);
                }
                if (!k.isHandy()) {
                    return OVER;
                }
                if (greatest) {
                    addRising(place);
                } else {
                    addFalling(place);
                }
                work.goOn(k, up);
                // the same factor in both changes no K, and without it numbers stay small
                work.becomeAsPair();
                place = SHUNT - place;
            }
            return built.valueCount();
        }

        private void begin(Pair wish) {
            built.clear();
            work.load(wish);
        }

        private static int endOf(Polynomial p, boolean greatest) {
            return greatest ? p.degree() : p.leastPower();
        }

        /** Ways 2 (SERIES) and 3 (SHUNT): as above. */
        int divideByPoles(Pair wish, int place) {
            begin(wish);
            if (place == SHUNT) {
                work.swap();
            }
            loadInX();
            findRoots();
            // a power of x times a number is left, if there are no other ROOTS
            if (rest.degree() != rest.leastPower()) {
                return DARK;
            }
            int refusal = poleAtGreatest(place);
            if (refusal == 0) {
                refusal = poleAtZero(place);
            }
            for (int i = 0; i < rootCount && refusal == 0; i++) {
                refusal = poleAtRoot(place, i);
            }
            return refusal == 0 ? built.valueCount() : refusal;
        }

        /** inX becomes G by H. */
        private void loadInX() {
            int start = work.above.isOfParity(0) ? 0 : -1;
            inX.above.loadEveryOther(work.above, start);
            inX.below.loadEveryOther(work.below, start + 1);
            int common = Math.min(inX.above.leastPower(), inX.below.leastPower());
            if (common > 0) {
                inX.above.loadEveryOther(work.above, start + 2 * common);
                inX.below.loadEveryOther(work.below, start + 1 + 2 * common);
            }
        }

        /** The ROOTS of H, the least p first; rest becomes H divided by all of them. */
        private void findRoots() {
            rootCount = 0;
            rest.load(inX.below);
            for (int u = -GREATEST_IN_ROOT; u <= GREATEST_IN_ROOT; u++) {
                for (int v = 1; v <= GREATEST_IN_ROOT; v++) {
                    // the others have been met in lowest terms, or will be
                    if (u != 0 && inX.below.valueAtMinus(u, v) == 0 && commonDivisor(u, v) == 1) {
                        addRoot(u, v, timesInRest(u, v));
                    }
                }
            }
        }

        private int timesInRest(int u, int v) {
            int times = 0;
            while (times < MOST_ROOTS && rest.valueAtMinus(u, v) == 0) {
                rest.divideByRoot(u, v);
                times++;
            }
            return times;
        }

        private void addRoot(int u, int v, int times) {
            if (rootCount >= MOST_ROOTS) {
                return;
            }
            int at = rootCount;
            while (at > 0 && u * rootBelow[at - 1] < rootAbove[at - 1] * v) {
                rootAbove[at] = rootAbove[at - 1];
                rootBelow[at] = rootBelow[at - 1];
                rootTimes[at] = rootTimes[at - 1];
                at--;
            }
            rootAbove[at] = u;
            rootBelow[at] = v;
            rootTimes[at] = times;
            rootCount++;
        }

        /** STEP 0. */
        private int poleAtGreatest(int place) {
            int above = inX.above.degree();
            int below = inX.below.degree();
            if (above <= below) {
                return 0;
            }
            k.put(inX.above.at(above), inX.below.at(below));
            if (above > below + 1 || k.above <= 0) {
                return unlawful(0);
            }
            if (!k.isHandy()) {
                return OVER;
            }
            addRising(place);
            return 0;
        }

        /** STEP 1. */
        private int poleAtZero(int place) {
            if (inX.below.at(0) == 0) {
                return unlawful(1);
            }
            if (inX.above.at(0) == 0) {
                return 0;
            }
            k.put(inX.above.at(0), inX.below.at(0));
            if (k.above <= 0) {
                return unlawful(1);
            }
            if (!k.isHandy()) {
                return OVER;
            }
            addFalling(place);
            return 0;
        }

        /** STEPS 2 on. */
        private int poleAtRoot(int place, int i) {
            if (i < 0 || i >= MOST_ROOTS || rootAbove[i] <= 0 || rootTimes[i] > 1) {
                return unlawful(2 + i);
            }
            int u = rootAbove[i];
            int v = rootBelow[i];
            // what is left of H is v times less than the document's; - p times v is - u
            rest.load(inX.below);
            rest.divideByRoot(u, v);
            k.put(inX.above.valueAtMinus(u, v), -u * rest.valueAtMinus(u, v));
            if (k.above == 0) {
                return 0;
            }
            if (k.above < 0) {
                return unlawful(2 + i);
            }
            byRoot.put(k.above * v, k.below * u);
            if (!k.isHandy() || !byRoot.isHandy()) {
                return OVER;
            }
            addBoth(place);
            return 0;
        }

        private static int unlawful(int step) {
            return -100 - step;
        }

        /** K is HANDY, so its casts lose nothing. */
        private void addRising(int place) {
            int above = (int) k.above;
            int below = (int) k.below;
            if (place == SERIES) {
                built.add(place, above, below, 0, 0);
            } else {
                built.add(place, 0, 0, above, below);
            }
        }

        private void addFalling(int place) {
            int above = (int) k.below;
            int below = (int) k.above;
            if (place == SERIES) {
                built.add(place, 0, 0, above, below);
            } else {
                built.add(place, above, below, 0, 0);
            }
        }

        private void addBoth(int place) {
            int risingAbove = (int) byRoot.above;
            int risingBelow = (int) byRoot.below;
            int fallingAbove = (int) k.below;
            int fallingBelow = (int) k.above;
            if (place == SERIES) {
                built.add(place, risingAbove, risingBelow, fallingAbove, fallingBelow);
            } else {
                built.add(place, fallingAbove, fallingBelow, risingAbove, risingBelow);
            }
        }
    }

    /** REACTANCE of a LAWFUL fraction. */
    private static final class Reactance {
        private final Polynomial inX = new Polynomial();
        private final Fraction result = new Fraction();

        /** Whether there is one at n by d. */
        boolean workOut(Pair wish, int n, int d) {
            boolean belowOdd = wish.below.isOfParity(1);
            // both values have the same power of d below them, which falls out
            long even = halfValue(belowOdd ? wish.above : wish.below, 0, n, d) * d;
            long odd = halfValue(belowOdd ? wish.below : wish.above, 1, n, d) * n;
            if ((belowOdd ? odd : even) == 0) {
                return false;
            }
            if (belowOdd) {
                result.put(-even, odd);
            } else {
                result.put(odd, even);
            }
            return true;
        }

        private long halfValue(Polynomial p, int parity, int n, int d) {
            inX.loadEveryOther(p, parity);
            return inX.valueAtMinus(n * n, d * d);
        }
    }

    /** The BILL: of each PART what bill() tells. */
    private static final class Bill {
        private final int[][] rows = new int[MOST_VALUES][PART_ITEMS];
        private int partCount = 0;

        void countUp(Ladder ladder) {
            partCount = 0;
            for (int k = 0; k < ladder.armCount; k++) {
                addPart(COIL, ladder.item(k, 1), ladder.item(k, 2));
                addPart(CAPACITOR, ladder.item(k, 3), ladder.item(k, 4));
            }
        }

        private void addPart(int kind, int above, int below) {
            if (above == 0) {
                return;
            }
            for (int i = 0; i < partCount && i < MOST_VALUES; i++) {
                int[] row = rows[i];
                if (row[0] == kind && row[1] == above && row[2] == below) {
                    row[3]++;
                    return;
                }
            }
            if (partCount < MOST_VALUES) {
                int[] row = rows[partCount];
                row[0] = kind;
                row[1] = above;
                row[2] = below;
                row[3] = 1;
                partCount++;
            }
        }

        int item(int k, int what) {
            boolean there = k >= 0 && k < partCount && k < MOST_VALUES && what >= 0 && what < PART_ITEMS;
            return there ? rows[k][what] : 0;
        }

        int differentValues() {
            int many = 0;
            for (int i = 0; i < partCount; i++) {
                boolean isNew = true;
                for (int k = 0; k < i && isNew; k++) {
                    isNew = item(k, 1) != item(i, 1) || item(k, 2) != item(i, 2);
                }
                many += isNew ? 1 : 0;
            }
            return many;
        }
    }

    /** THE MEMORY: of each FRACTION what kept() tells. */
    private static final class Memory {
        private final int[][] rows = new int[MOST_FRACTIONS][FRACTION_ITEMS];
        private final Pair sought = new Pair();
        private int fractionCount = 0;

        boolean holds(int k) {
            return k >= 0 && k < fractionCount;
        }

        int item(int k, int what) {
            boolean there = holds(k) && k < MOST_FRACTIONS && what >= 0 && what < FRACTION_ITEMS;
            return there ? rows[k][what] : 0;
        }

        int numberOf(Pair wish) {
            sought.load(wish);
            sought.becomeAsPair();
            for (int k = 0; k < fractionCount; k++) {
                if (isSought(k)) {
                    return k;
                }
            }
            return NONE;
        }

        private boolean isSought(int k) {
            for (int i = 0; i < WISH_NUMBERS; i++) {
                if (item(k, 1 + i) != sought.number(i)) {
                    return false;
                }
            }
            return true;
        }

        int keepOnce(Pair wish) {
            int k = numberOf(wish);
            if (k == NONE) {
                if (fractionCount >= MOST_FRACTIONS) {
                    return FULL;
                }
                k = fractionCount;
                rows[k][0] = 0;
                for (int i = 0; i < WISH_NUMBERS; i++) {
                    rows[k][1 + i] = (int) sought.number(i);
                }
                fractionCount++;
            }
            if (k >= 0 && k < MOST_FRACTIONS) {
                rows[k][0]++;
            }
            return k;
        }

        int timesOfAll() {
            int times = 0;
            for (int k = 0; k < fractionCount; k++) {
                times += item(k, 0);
            }
            return times;
        }
    }

    /** SHEETS; the rows are made once and used again. */
    private static final class Sheets {
        private static final int LOST = -1;
        private final long[][] rows = new long[SHEETS][MOST_ITEMS];
        private final int[] sizes = new int[SHEETS];

        Sheets() {
            for (int s = 0; s < SHEETS; s++) {
                sizes[s] = LOST;
            }
        }

        boolean isSheet(int s) {
            return s >= 0 && s < SHEETS;
        }

        int size(int s) {
            return isSheet(s) ? sizes[s] : LOST;
        }

        boolean isLost(int s) {
            return size(s) == LOST;
        }

        int notLost() {
            int many = 0;
            for (int s = 0; s < SHEETS; s++) {
                many += isLost(s) ? 0 : 1;
            }
            return many;
        }

        void renew(int s, int n) {
            if (isSheet(s) && n >= 0 && n <= MOST_ITEMS) {
                sizes[s] = n;
                for (int i = 0; i < MOST_ITEMS; i++) {
                    rows[s][i] = 0;
                }
            }
        }

        void forget(int s) {
            if (isSheet(s)) {
                sizes[s] = LOST;
            }
        }

        /** Whether there are n items from i on. */
        boolean hasRun(int s, int i, int n) {
            return i >= 0 && n >= 0 && n <= MOST_ITEMS && i <= size(s) - n;
        }

        long item(int s, int i) {
            return isSheet(s) && hasRun(s, i, 1) && i < MOST_ITEMS ? rows[s][i] : 0;
        }

        void put(int s, int i, long v) {
            if (isSheet(s) && hasRun(s, i, 1) && i < MOST_ITEMS) {
                rows[s][i] = v;
            }
        }

        void move(int s, int i, int t, int j, int n) {
            if (isSheet(s) && isSheet(t) && hasRun(s, i, n) && hasRun(t, j, n)) {
                System.arraycopy(rows[s], i, rows[t], j, n);
            }
        }
    }
}
