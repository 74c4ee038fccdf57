/** Each promise by hand: ordinary inputs, the edges that the document names, wrong inputs. */
public final class PromisesTest {
    private static final int MIN = Registers.MIN;
    private static final int MAX = Registers.MAX;

    public static void main(String[] args) {
        newObject();
        objectsAreApart();
        set();
        combine();
        combineAliases();
        combineRefusals();
        shift();
        shiftRefusals();
        narrow();
        narrowRefusals();
        suppose();
        supposeEveryComparison();
        supposeRefusals();
        compare();
        compareRefusals();
        valueAndMask();
        least();
        count();
        Check.end();
    }

    // Promise 1

    private static void newObject() {
        KnownBits bits = new KnownBits();
        for (int r = 0; r < 6; r++) {
            Check.pattern("new", bits, r, 0, 0);
            Check.due("new: count " + r, bits.count(r, 0, 63), 1);
            Check.due("new: least " + r, bits.least(r, 0), 0);
        }
    }

    private static void objectsAreApart() {
        KnownBits first = Registers.six();
        KnownBits second = new KnownBits();
        second.set(0, 63, 0);
        Registers.sixStand("apart", first);
        Check.pattern("apart", second, 1, 0, 0);
    }

    // Promise 2

    private static void set() {
        KnownBits bits = new KnownBits();
        Check.due("set ordinary", bits.set(0, 9, 6), 0);
        Check.pattern("set ordinary", bits, 0, 9, 6);
        Check.due("set, value in the mask", bits.set(5, 63, 21), 0);
        Check.pattern("set, value in the mask", bits, 5, 42, 21);
        Check.due("set over 63", bits.set(1, 64 + 9, 128 + 6), 0);
        Check.pattern("set over 63", bits, 1, 9, 6);
        Check.due("set below 0", bits.set(2, -1, -64), 0);
        Check.pattern("set below 0", bits, 2, 63, 0);
        Check.due("set least ints", bits.set(3, MIN, MIN), 0);
        Check.pattern("set least ints", bits, 3, 0, 0);
        Check.due("set greatest ints", bits.set(4, MAX, MAX), 0);
        Check.pattern("set greatest ints", bits, 4, 0, 63);
        Check.due("set -1, 1", bits.set(4, -1, 1), 0);
        Check.pattern("set -1, 1", bits, 4, 62, 1);

        KnownBits refused = Registers.six();
        for (int r : Registers.OUT_OF_RANGE) {
            Check.due("set refused " + r, refused.set(r, 63, 0), -1);
        }
        Registers.sixStand("set refused", refused);
    }

    // Promise 3

    private static void combined(int kind, KnownBits bits, int value, int mask) {
        int valueA = bits.value(0);
        int maskA = bits.mask(0);
        int valueB = bits.value(1);
        int maskB = bits.mask(1);
        Check.due("combine kind " + kind, bits.combine(2, kind, 0, 1), 0);
        Check.pattern("combine kind " + kind, bits, 2, value, mask);
        Check.pattern("combine kind " + kind + " leaves a", bits, 0, valueA, maskA);
        Check.pattern("combine kind " + kind + " leaves b", bits, 1, valueB, maskB);
    }

    private static void combine() {
        combined(0, Registers.with(62, 0, 5, 0), 3, 0);
        combined(0, Registers.with(1, 2, 1, 0), 0, 6);
        combined(0, Registers.with(0, 32, 0, 32), 0, 32);
        combined(0, Registers.with(63, 0, 0, 1), 0, 63);
        combined(1, Registers.with(2, 0, 5, 0), 61, 0);
        combined(1, Registers.with(0, 0, 0, 1), 0, 63);
        combined(1, Registers.with(8, 1, 8, 0), 0, 1);
        combined(2, Registers.with(44, 0, 6, 0), 4, 0);
        combined(2, Registers.with(12, 3, 6, 0), 4, 2);
        combined(3, Registers.with(44, 0, 6, 0), 46, 0);
        combined(3, Registers.with(12, 3, 6, 0), 14, 1);
        combined(4, Registers.with(44, 0, 6, 0), 42, 0);
        combined(4, Registers.with(12, 3, 6, 0), 8, 3);
        combined(5, Registers.with(44, 0, 6, 0), 4, 42);
        combined(5, Registers.with(12, 3, 6, 0), 4, 11);
        combined(5, Registers.with(9, 0, 9, 0), 9, 0);
        combined(6, Registers.with(8, 5, 1, 12), 9, 4);
        combined(6, Registers.with(8, 5, 9, 0), 9, 0);
        combined(6, Registers.with(0, 63, 5, 56), 5, 56);
        KnownBits empty = Registers.with(8, 5, 2, 12, 33, 2);
        Check.due("combine, empty set", empty.combine(2, 6, 0, 1), -2);
        Check.pattern("combine, empty set", empty, 0, 8, 5);
        Check.pattern("combine, empty set", empty, 1, 2, 12);
        Check.pattern("combine, empty set", empty, 2, 33, 2);
    }

    private static void combineAliases() {
        KnownBits apart = Registers.with(8, 2);
        Check.due("combine a = b, minus", apart.combine(1, 1, 0, 0), 0);
        Check.pattern("combine a = b, minus", apart, 1, 0, 62);
        Check.due("combine a = b, plus", apart.combine(1, 0, 0, 0), 0);
        Check.pattern("combine a = b, plus", apart, 1, 16, 6);
        Check.due("combine a = b, xor", apart.combine(1, 4, 0, 0), 0);
        Check.pattern("combine a = b, xor", apart, 1, 0, 2);
        Check.due("combine a = b, both", apart.combine(1, 6, 0, 0), 0);
        Check.pattern("combine a = b, both", apart, 1, 8, 2);
        KnownBits onto = Registers.with(5, 0, 3, 0);
        Check.due("combine onto a", onto.combine(0, 1, 0, 1), 0);
        Check.pattern("combine onto a", onto, 0, 2, 0);
        Check.due("combine onto b", onto.combine(1, 1, 0, 1), 0);
        Check.pattern("combine onto b", onto, 1, 63, 0);
        Check.due("combine onto both", onto.combine(0, 0, 0, 0), 0);
        Check.pattern("combine onto both", onto, 0, 4, 0);
    }

    private static void combineRefusals() {
        KnownBits bits = Registers.six();
        for (int r : Registers.OUT_OF_RANGE) {
            for (int kind = 0; kind <= 6; kind++) {
                Check.due("combine dst " + r, bits.combine(r, kind, 0, 1), -1);
                Check.due("combine a " + r, bits.combine(0, kind, r, 1), -1);
                Check.due("combine b " + r, bits.combine(0, kind, 1, r), -1);
            }
        }
        for (int kind : new int[] {-1, 7, 8, MIN, MAX}) {
            Check.due("combine kind " + kind, bits.combine(0, kind, 1, 2), -1);
        }
        Registers.sixStand("combine refused", bits);
    }

    // Promise 4

    private static void shifted(int value, int mask, int by, int wantValue, int wantMask) {
        KnownBits bits = Registers.with(value, mask, 63, 0);
        String call = "shift " + value + "/" + mask + " by " + by;
        Check.due(call, bits.shift(1, 0, by), 0);
        Check.pattern(call, bits, 1, wantValue, wantMask);
        Check.pattern(call + " leaves a", bits, 0, value, mask);
        Check.due(call + " onto itself", bits.shift(0, 0, by), 0);
        Check.pattern(call + " onto itself", bits, 0, wantValue, wantMask);
    }

    private static void shift() {
        shifted(41, 6, 0, 41, 6);
        shifted(41, 6, 1, 18, 12);
        shifted(41, 6, 3, 8, 48);
        shifted(41, 6, 5, 32, 0);
        shifted(41, 6, 6, 0, 0);
        shifted(41, 6, -1, 20, 3);
        shifted(41, 6, -2, 10, 1);
        shifted(41, 6, -5, 1, 0);
        shifted(41, 6, -6, 0, 0);
        shifted(0, 63, 2, 0, 60);
        shifted(0, 63, -2, 0, 15);
        shifted(0, 63, 6, 0, 0);
        shifted(0, 63, -6, 0, 0);
        shifted(0, 63, 5, 0, 32);
        shifted(0, 63, -5, 0, 1);
    }

    private static void shiftRefusals() {
        KnownBits bits = Registers.six();
        for (int r : Registers.OUT_OF_RANGE) {
            Check.due("shift dst " + r, bits.shift(r, 0, 1), -1);
            Check.due("shift a " + r, bits.shift(0, r, 1), -1);
        }
        for (int by : new int[] {-7, 7, 32, -32, 38, MIN, MAX}) {
            Check.due("shift by " + by, bits.shift(0, 1, by), -1);
        }
        Registers.sixStand("shift refused", bits);
    }

    // Promise 5

    private static void narrowed(int value, int mask, int low, int high, int wantValue, int wantMask) {
        KnownBits bits = Registers.with(value, mask);
        String call = "narrow " + value + "/" + mask + " to " + low + ".." + high;
        Check.due(call, bits.narrow(0, low, high), 0);
        Check.pattern(call, bits, 0, wantValue, wantMask);
    }

    private static void narrow() {
        narrowed(0, 63, 20, 30, 16, 15);
        narrowed(0, 63, 31, 32, 0, 63);
        narrowed(0, 63, 32, 33, 32, 1);
        narrowed(0, 63, 7, 7, 7, 0);
        narrowed(0, 63, 63, MAX, 63, 0);
        narrowed(0, 63, MIN, 0, 0, 0);
        narrowed(0, 63, MIN, MAX, 0, 63);
        narrowed(21, 42, 21, 29, 21, 10);
        narrowed(21, 42, 21, 28, 21, 2);
        narrowed(21, 42, 22, 28, 23, 0);
        narrowed(21, 42, 32, 63, 53, 10);
    }

    private static void narrowRefusals() {
        KnownBits bits = Registers.six();
        for (int r : Registers.OUT_OF_RANGE) {
            Check.due("narrow " + r, bits.narrow(r, 0, 63), -1);
            Check.due("narrow to nothing " + r, bits.narrow(r, 1, 0), -1);
        }
        Check.due("narrow between two numbers", bits.narrow(0, 2, 2), -2);
        Check.due("narrow above", bits.narrow(0, 8, MAX), -2);
        Check.due("narrow over 63", bits.narrow(2, 64, MAX), -2);
        Check.due("narrow below 0", bits.narrow(1, MIN, -1), -2);
        Check.due("narrow turned", bits.narrow(4, 63, 0), -2);
        Check.due("narrow far turned", bits.narrow(4, MAX, MIN), -2);
        Registers.sixStand("narrow refused", bits);
    }

    // Promise 6

    private static void suppose() {
        // 8, 9, 12, 13 and 10, 11: only one side loses numbers.
        KnownBits both = Registers.with(8, 5, 10, 1, 33, 4);
        Check.due("suppose a < b", both.suppose(0, 1, 1), 0);
        Check.pattern("suppose a < b", both, 0, 8, 1);
        Check.pattern("suppose a < b", both, 1, 10, 1);
        Check.pattern("suppose leaves the rest", both, 2, 33, 4);
        // 0 .. 3 and 2, 3: both sides lose numbers, and 3 > 2 is all that is left.
        KnownBits tight = Registers.with(0, 3, 2, 1);
        Check.due("suppose a > b", tight.suppose(0, 5, 1), 0);
        Check.pattern("suppose a > b", tight, 0, 3, 0);
        Check.pattern("suppose a > b", tight, 1, 2, 0);
        KnownBits turned = Registers.with(2, 1, 0, 3);
        Check.due("suppose b < a", turned.suppose(1, 5, 0), 0);
        Check.pattern("suppose b < a", turned, 1, 3, 0);
        Check.pattern("suppose b < a", turned, 0, 2, 0);
        // 0, 4, 8, 12 and 5, 13: no number is common, so the bounds alone decide.
        KnownBits loose = Registers.with(0, 12, 5, 8);
        Check.due("suppose a >= b", loose.suppose(0, 4, 1), 0);
        Check.pattern("suppose a >= b", loose, 0, 8, 4);
        Check.pattern("suppose a >= b", loose, 1, 5, 0);
    }

    private static void supposed(int how, KnownBits bits, int valueA, int maskA, int valueB, int maskB) {
        String call = "suppose how " + how;
        Check.due(call, bits.suppose(0, how, 1), 0);
        Check.pattern(call, bits, 0, valueA, maskA);
        Check.pattern(call, bits, 1, valueB, maskB);
    }

    private static void supposeEveryComparison() {
        supposed(0, Registers.with(8, 5, 1, 12), 9, 4, 9, 4);
        supposed(1, Registers.with(0, 3, 0, 1), 0, 0, 1, 0);
        supposed(2, Registers.with(0, 3, 0, 1), 0, 1, 0, 1);
        supposed(3, Registers.with(4, 1, 5, 0), 4, 0, 5, 0);
        supposed(3, Registers.with(5, 0, 4, 1), 5, 0, 4, 0);
        supposed(3, Registers.with(4, 1, 4, 1), 4, 1, 4, 1);
        supposed(4, Registers.with(0, 1, 0, 3), 0, 1, 0, 1);
        supposed(5, Registers.with(0, 1, 0, 3), 1, 0, 0, 0);
        int[][] never = {{4, 5}, {5, 4}, {5, 4}, {4, 4}, {4, 5}, {4, 4}};
        for (int how = 0; how < 6; how++) {
            KnownBits bits = Registers.with(never[how][0], 0, never[how][1], 0);
            Check.due("suppose what never holds, " + how, bits.suppose(0, how, 1), -2);
            Check.pattern("suppose what never holds", bits, 0, never[how][0], 0);
            Check.pattern("suppose what never holds", bits, 1, never[how][1], 0);
        }
        KnownBits wide = Registers.with(48, 3, 32, 7);
        Check.due("suppose wide never", wide.suppose(0, 2, 1), -2);
        Check.pattern("suppose wide never", wide, 0, 48, 3);
        Check.pattern("suppose wide never", wide, 1, 32, 7);
    }

    private static void supposeRefusals() {
        KnownBits bits = Registers.six();
        for (int how = 0; how < 6; how++) {
            for (int r : Registers.OUT_OF_RANGE) {
                Check.due("suppose a " + r, bits.suppose(r, how, 0), -1);
                Check.due("suppose b " + r, bits.suppose(0, how, r), -1);
            }
            for (int r = 0; r < 6; r++) {
                Check.due("suppose a = b", bits.suppose(r, how, r), -1);
            }
        }
        for (int how : new int[] {-1, 6, 7, MIN, MAX}) {
            Check.due("suppose how " + how, bits.suppose(0, how, 1), -1);
        }
        Registers.sixStand("suppose refused", bits);
    }

    // Promise 7

    private static void compared(KnownBits bits, int a, int b, int... wants) {
        for (int how = 0; how < 6; how++) {
            Check.due("compare " + a + ", " + how + ", " + b, bits.compare(a, how, b), wants[how]);
        }
    }

    private static void compare() {
        KnownBits bits = Registers.with(4, 0, 5, 0, 4, 1, 6, 1, 4, 0, 5, 2);
        compared(bits, 0, 1, 0, 1, 1, 1, 0, 0);
        compared(bits, 1, 0, 0, 0, 0, 1, 1, 1);
        compared(bits, 0, 4, 1, 0, 1, 0, 1, 0);
        compared(bits, 0, 0, 1, 0, 1, 0, 1, 0);
        compared(bits, 2, 2, 2, 2, 2, 2, 2, 2);
        compared(bits, 0, 2, 2, 2, 1, 2, 2, 0);
        compared(bits, 1, 2, 2, 0, 2, 2, 1, 2);
        compared(bits, 2, 3, 0, 1, 1, 1, 0, 0);
        compared(bits, 3, 5, 2, 2, 2, 2, 2, 2);
        compared(bits, 2, 5, 2, 2, 1, 2, 2, 0);
        Check.pattern("compare changes nothing", bits, 2, 4, 1);
        Check.pattern("compare changes nothing", bits, 5, 5, 2);
        // Interleaved patterns without a common number: unlike for all, in order for some.
        compared(Registers.with(0, 4, 2, 4), 0, 1, 0, 2, 2, 1, 2, 2);
    }

    private static void compareRefusals() {
        KnownBits bits = Registers.six();
        for (int how = 0; how < 6; how++) {
            for (int r : Registers.OUT_OF_RANGE) {
                Check.due("compare a " + r, bits.compare(r, how, 0), -1);
                Check.due("compare b " + r, bits.compare(0, how, r), -1);
            }
        }
        for (int how : new int[] {-1, 6, 7, MIN, MAX}) {
            Check.due("compare how " + how, bits.compare(0, how, 1), -1);
        }
        Registers.sixStand("compare refused", bits);
    }

    // Promises 8 and 9

    private static void valueAndMask() {
        KnownBits bits = Registers.six();
        for (int r : Registers.OUT_OF_RANGE) {
            Check.due("value " + r, bits.value(r), -1);
            Check.due("mask " + r, bits.mask(r), -1);
        }
        Registers.sixStand("value and mask", bits);
        Registers.sixStand("value and mask again", bits);
    }

    // Promise 10

    private static void least() {
        KnownBits bits = Registers.with(21, 42, 0, 63, 63, 0);
        int[][] rows = {
            {0, 0, 21}, {0, 21, 21}, {0, 22, 23}, {0, 24, 29}, {0, 30, 31}, {0, 32, 53}, {0, 62, 63},
            {0, 63, 63}, {0, 64, 64}, {0, MAX, 64}, {0, -1, 21}, {0, MIN, 21}, {1, MIN, 0}, {1, 40, 40},
            {1, 63, 63}, {1, 64, 64}, {2, 0, 63}, {3, 0, 0}, {3, 1, 64}, {3, -64, 0},
        };
        for (int[] row : rows) {
            Check.due("least " + row[0] + ", " + row[1], bits.least(row[0], row[1]), row[2]);
        }
        Check.pattern("least changes nothing", bits, 0, 21, 42);
        for (int r : Registers.OUT_OF_RANGE) {
            Check.due("least of no register " + r, bits.least(r, 0), -1);
            Check.due("least of no register, none " + r, bits.least(r, 64), -1);
        }
    }

    // Promise 11

    private static void count() {
        KnownBits bits = Registers.with(21, 42, 0, 63, 63, 0);
        int[][] rows = {
            {0, 0, 63, 8}, {0, 21, 21, 1}, {0, 22, 22, 0}, {0, 22, 54, 4}, {0, 21, 63, 8}, {0, 22, 62, 6},
            {0, MIN, MAX, 8}, {0, MAX, MIN, 0}, {0, 63, 21, 0}, {0, 64, MAX, 0}, {0, MIN, -1, 0},
            {1, 0, 63, 64}, {1, MIN, MAX, 64}, {1, 10, 19, 10}, {1, 63, MAX, 1}, {1, MIN, 0, 1},
            {2, 0, 62, 0}, {2, 63, 63, 1}, {3, 0, 0, 1}, {3, 1, 63, 0},
        };
        for (int[] row : rows) {
            String call = "count " + row[0] + ", " + row[1] + ", " + row[2];
            Check.due(call, bits.count(row[0], row[1], row[2]), row[3]);
        }
        Check.pattern("count changes nothing", bits, 0, 21, 42);
        for (int r : Registers.OUT_OF_RANGE) {
            Check.due("count of no register " + r, bits.count(r, 0, 63), -1);
            Check.due("count of no register, none " + r, bits.count(r, 1, 0), -1);
        }
    }
}
