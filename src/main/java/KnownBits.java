/**
 * Six registers of six-bit numbers of which some bits are known and some are not.
 *
 * Inside, a set of numbers is a long whose bit n tells whether the number n is in the set: the
 * document speaks of sets throughout, and 64 numbers fit one long exactly. Each change of a
 * register builds the set that the document names and keeps its least pattern.
 */
public final class KnownBits {
    private static final int REGISTERS = 6;
    private static final int NUMBERS = 64;
    private static final int ALL_BITS = 63;

    private static final int KINDS = 7;
    private static final int COMPARISONS = 6;
    private static final int FARTHEST_SHIFT = 6;

    private static final int DONE = 0;
    private static final int REFUSED = -1;
    private static final int NONE_LEFT = -2;

    private static final int HOLDS_FOR_NONE = 0;
    private static final int HOLDS_FOR_ALL = 1;
    private static final int HOLDS_FOR_SOME = 2;

    private final int[] values = new int[REGISTERS];
    private final int[] masks = new int[REGISTERS];

    public KnownBits() {
    }

    public int set(int register, int value, int mask) {
        if (!isRegister(register)) {
            return REFUSED;
        }
        masks[register] = mask & ALL_BITS;
        values[register] = value & ~mask & ALL_BITS;
        return DONE;
    }

    public int combine(int dst, int kind, int a, int b) {
        if (!isRegister(dst) || !isRegister(a) || !isRegister(b) || kind < 0 || kind >= KINDS) {
            return REFUSED;
        }
        long xs = numbersOf(a);
        long ys = numbersOf(b);
        long results = resultsOf(kind, xs, ys);
        return keepLeastPattern(dst, results);
    }

    public int shift(int dst, int a, int by) {
        if (!isRegister(dst) || !isRegister(a) || by < -FARTHEST_SHIFT || by > FARTHEST_SHIFT) {
            return REFUSED;
        }
        long xs = numbersOf(a);
        long results = 0L;
        for (int x = 0; x < NUMBERS; x++) {
            if (isIn(x, xs)) {
                int result = by >= 0 ? (x << by) & ALL_BITS : x >> -by;
                results |= 1L << result;
            }
        }
        return keepLeastPattern(dst, results);
    }

    public int narrow(int register, int low, int high) {
        if (!isRegister(register)) {
            return REFUSED;
        }
        long within = numbersWithin(register, low, high);
        return keepLeastPattern(register, within);
    }

    public int suppose(int a, int how, int b) {
        if (!isRegister(a) || !isRegister(b) || !isComparison(how) || a == b) {
            return REFUSED;
        }
        // Both sets are taken before either register changes: each side is judged by the other
        // as it was.
        long xs = numbersOf(a);
        long ys = numbersOf(b);
        int turned = turnedAround(how);
        long possibleXs = thoseWithPartner(xs, how, ys);
        long possibleYs = thoseWithPartner(ys, turned, xs);
        if (possibleXs == 0L || possibleYs == 0L) {
            return NONE_LEFT;
        }
        keepLeastPattern(a, possibleXs);
        keepLeastPattern(b, possibleYs);
        return DONE;
    }

    public int compare(int a, int how, int b) {
        if (!isRegister(a) || !isRegister(b) || !isComparison(how)) {
            return REFUSED;
        }
        long xs = numbersOf(a);
        long ys = numbersOf(b);
        boolean heldOnce = false;
        boolean failedOnce = false;
        for (int x = 0; x < NUMBERS; x++) {
            for (int y = 0; y < NUMBERS; y++) {
                if (isIn(x, xs) && isIn(y, ys)) {
                    boolean held = holds(x, how, y);
                    heldOnce |= held;
                    failedOnce |= !held;
                }
            }
        }
        if (!failedOnce) {
            return HOLDS_FOR_ALL;
        }
        return heldOnce ? HOLDS_FOR_SOME : HOLDS_FOR_NONE;
    }

    public int value(int register) {
        return isRegister(register) ? values[register] : REFUSED;
    }

    public int mask(int register) {
        return isRegister(register) ? masks[register] : REFUSED;
    }

    public int least(int register, int from) {
        if (!isRegister(register)) {
            return REFUSED;
        }
        long within = numbersWithin(register, from, ALL_BITS);
        for (int n = 0; n < NUMBERS; n++) {
            if (isIn(n, within)) {
                return n;
            }
        }
        return NUMBERS;
    }

    public int count(int register, int low, int high) {
        if (!isRegister(register)) {
            return REFUSED;
        }
        long within = numbersWithin(register, low, high);
        int found = 0;
        for (int n = 0; n < NUMBERS; n++) {
            if (isIn(n, within)) {
                found++;
            }
        }
        return found;
    }

    private static boolean isRegister(int register) {
        return register >= 0 && register < REGISTERS;
    }

    private static boolean isComparison(int how) {
        return how >= 0 && how < COMPARISONS;
    }

    private static boolean isIn(int n, long numbers) {
        return ((numbers >>> n) & 1L) != 0L;
    }

    private long numbersOf(int register) {
        return numbersWithin(register, 0, ALL_BITS);
    }

    private long numbersWithin(int register, int low, int high) {
        long numbers = 0L;
        for (int n = 0; n < NUMBERS; n++) {
            boolean fits = (n & ~masks[register]) == values[register];
            if (fits && low <= n && n <= high) {
                numbers |= 1L << n;
            }
        }
        return numbers;
    }

    private int keepLeastPattern(int register, long numbers) {
        if (numbers == 0L) {
            return NONE_LEFT;
        }
        int onesInAll = ALL_BITS;
        int onesInAny = 0;
        for (int n = 0; n < NUMBERS; n++) {
            if (isIn(n, numbers)) {
                onesInAll &= n;
                onesInAny |= n;
            }
        }
        // Two numbers differ in a bit just if it is 1 in some number and not in every one.
        masks[register] = onesInAny & ~onesInAll;
        values[register] = onesInAll;
        return DONE;
    }

    private static long resultsOf(int kind, long xs, long ys) {
        if (kind == 5) {
            return xs | ys;
        }
        if (kind == 6) {
            return xs & ys;
        }
        long results = 0L;
        for (int x = 0; x < NUMBERS; x++) {
            for (int y = 0; y < NUMBERS; y++) {
                if (isIn(x, xs) && isIn(y, ys)) {
                    int result = resultOf(kind, x, y);
                    results |= 1L << result;
                }
            }
        }
        return results;
    }

    private static int resultOf(int kind, int x, int y) {
        switch (kind) {
            case 0:
                return (x + y) & ALL_BITS;
            case 1:
                return (x - y) & ALL_BITS;
            case 2:
                return x & y;
            case 3:
                return x | y;
            default:
                return x ^ y;
        }
    }

    private static boolean holds(int x, int how, int y) {
        switch (how) {
            case 0:
                return x == y;
            case 1:
                return x < y;
            case 2:
                return x <= y;
            case 3:
                return x != y;
            case 4:
                return x >= y;
            default:
                return x > y;
        }
    }

    /** The comparison that holds between y and x just if how holds between x and y. */
    private static int turnedAround(int how) {
        switch (how) {
            case 1:
                return 5;
            case 2:
                return 4;
            case 4:
                return 2;
            case 5:
                return 1;
            default:
                return how;
        }
    }

    private static long thoseWithPartner(long xs, int how, long ys) {
        long kept = 0L;
        for (int x = 0; x < NUMBERS; x++) {
            for (int y = 0; y < NUMBERS; y++) {
                if (isIn(x, xs) && isIn(y, ys) && holds(x, how, y)) {
                    kept |= 1L << x;
                }
            }
        }
        return kept;
    }
}
