/** Each sentence of the promises 7 to 11 that names a boundary case: a test of its own. */
public final class LooksBoundariesTest {
    private static final int MIN = Registers.MIN;
    private static final int MAX = Registers.MAX;

    public static void main(String[] args) {
        compareHoldsForAll();
        compareHoldsForNone();
        compareOtherwise();
        compareChosenApart();
        compareAtTheFirstAndLastNumber();
        compareHowTooSmallOrTooLarge();
        valueFirstAndLast();
        valueRefused();
        maskEmptyAndFull();
        maskRefused();
        leastAtLeastFrom();
        leastOfAnyInt();
        leastIfThereIsNone();
        leastRefused();
        countBoundsAreInside();
        countEmptyAndFull();
        countOfAnyInts();
        countRefused();
        looksChangeNothing();
        Check.end();
    }

    // Promise 7

    private static void compared(int[] registers, int a, int how, int b, int want) {
        KnownBits there = Registers.with(registers);
        Registers.unchanged("compare " + a + ", " + how + ", " + b, there, want, bits -> bits.compare(a, how, b));
    }

    private static void comparedByAll(int[] registers, int a, int b, int... wants) {
        for (int how = 0; how <= 5; how++) {
            compared(registers, a, how, b, wants[how]);
        }
    }

    private static void compareHoldsForAll() {
        Check.sentence("compare: 1 if the comparison holds for all x and all y");
        compared(new int[] {9, 0, 9, 0}, 0, 0, 1, 1);
        compared(new int[] {4, 1, 6, 1}, 0, 1, 1, 1);
        compared(new int[] {4, 1, 5, 2}, 0, 2, 1, 1);
        compared(new int[] {0, 62, 1, 62}, 0, 3, 1, 1);
        compared(new int[] {5, 2, 4, 1}, 0, 4, 1, 1);
        compared(new int[] {6, 1, 4, 1}, 0, 5, 1, 1);
    }

    private static void compareHoldsForNone() {
        Check.sentence("compare: 0 if it holds for none");
        compared(new int[] {0, 62, 1, 62}, 0, 0, 1, 0);
        compared(new int[] {5, 2, 4, 1}, 0, 1, 1, 0);
        compared(new int[] {6, 1, 4, 1}, 0, 2, 1, 0);
        compared(new int[] {9, 0, 9, 0}, 0, 3, 1, 0);
        compared(new int[] {4, 1, 6, 1}, 0, 4, 1, 0);
        compared(new int[] {4, 1, 5, 2}, 0, 5, 1, 0);
    }

    private static void compareOtherwise() {
        Check.sentence("compare: 2 otherwise");
        // All but one of the pairs, then one alone of the pairs.
        compared(new int[] {0, 63, 0, 0}, 0, 3, 1, 2);
        compared(new int[] {0, 63, 0, 0}, 0, 0, 1, 2);
        compared(new int[] {0, 31, 31, 32}, 0, 1, 1, 2);
        compared(new int[] {0, 31, 31, 32}, 0, 4, 1, 2);
        compared(new int[] {1, 62, 0, 62}, 0, 2, 1, 2);
        compared(new int[] {0, 3, 2, 1}, 0, 5, 1, 2);
        compared(new int[] {0, 3, 2, 1}, 0, 2, 1, 2);
        comparedByAll(new int[] {4, 1, 5, 2}, 0, 1, 2, 2, 1, 2, 2, 0);
        comparedByAll(new int[] {0, 4, 2, 4}, 0, 1, 0, 2, 2, 1, 2, 2);
    }

    private static void compareChosenApart() {
        Check.sentence("compare: chosen apart, also if a = b");
        for (int r = 0; r < 6; r++) {
            comparedByAll(new int[] {9, 6, 9, 6, 9, 6, 9, 6, 9, 6, 9, 6}, r, r, 2, 2, 2, 2, 2, 2);
            comparedByAll(new int[] {9, 0, 0, 0, 63, 0, 9, 0, 0, 0, 63, 0}, r, r, 1, 0, 1, 0, 1, 0);
        }
        comparedByAll(new int[] {0, 63}, 0, 0, 2, 2, 2, 2, 2, 2);
        comparedByAll(new int[] {62, 1}, 0, 0, 2, 2, 2, 2, 2, 2);
    }

    private static void compareAtTheFirstAndLastNumber() {
        Check.sentence("compare: at 0 and at 63");
        int[] ends = {0, 63, 0, 0, 63, 0};
        comparedByAll(ends, 0, 1, 2, 0, 2, 2, 1, 2);
        comparedByAll(ends, 0, 2, 2, 2, 1, 2, 2, 0);
        comparedByAll(ends, 1, 0, 2, 2, 1, 2, 2, 0);
        comparedByAll(ends, 2, 0, 2, 0, 2, 2, 1, 2);
        comparedByAll(ends, 1, 2, 0, 1, 1, 1, 0, 0);
        comparedByAll(ends, 2, 1, 0, 0, 0, 1, 1, 1);
        comparedByAll(new int[] {0, 31, 32, 31}, 0, 1, 0, 1, 1, 1, 0, 0);
        comparedByAll(new int[] {0, 31, 31, 0}, 0, 1, 2, 2, 1, 2, 2, 0);
    }

    private static void compareHowTooSmallOrTooLarge() {
        Check.sentence("compare: -1 (also if how is not from 0 to 5)");
        for (int how : new int[] {-1, 6, 7, -5, 64, MIN, MAX}) {
            Registers.refused("how " + how, bits -> bits.compare(0, how, 1));
            Registers.refused("how " + how + ", a = b", bits -> bits.compare(5, how, 5));
        }
        Registers.refused("register -1", bits -> bits.compare(-1, 0, 5));
        Registers.refused("register 6", bits -> bits.compare(0, 5, 6));
    }

    // Promises 8 and 9

    private static void valueFirstAndLast() {
        Check.sentence("value: The value of the register's pattern");
        KnownBits bits = Registers.with(0, 0, 63, 0, 63, 63, 63, 32, 63, 1, 42, 21);
        int[] wants = {0, 63, 0, 31, 62, 42};
        for (int r = 0; r < 6; r++) {
            Check.due("value " + r, bits.value(r), wants[r]);
        }
    }

    private static void valueRefused() {
        Check.sentence("value: or -1");
        for (int r : Registers.OUT_OF_RANGE) {
            Registers.refused("value " + r, bits -> bits.value(r));
        }
    }

    private static void maskEmptyAndFull() {
        Check.sentence("mask: The mask of the register's pattern");
        KnownBits bits = Registers.with(63, 0, 0, 63, 63, 63, 63, 32, 63, 1, 42, 21);
        int[] wants = {0, 63, 63, 32, 1, 21};
        for (int r = 0; r < 6; r++) {
            Check.due("mask " + r, bits.mask(r), wants[r]);
        }
    }

    private static void maskRefused() {
        Check.sentence("mask: or -1");
        for (int r : Registers.OUT_OF_RANGE) {
            Registers.refused("mask " + r, bits -> bits.mask(r));
        }
    }

    // Promise 10

    private static void leastIs(int value, int mask, int from, int want) {
        KnownBits there = Registers.with(value, mask);
        String call = "least of " + value + "/" + mask + " from " + from;
        Registers.unchanged(call, there, want, bits -> bits.least(0, from));
    }

    private static void leastAtLeastFrom() {
        Check.sentence("least: The least number at least from");
        leastIs(9, 6, 9, 9);
        leastIs(9, 6, 10, 11);
        leastIs(9, 6, 12, 13);
        leastIs(9, 6, 14, 15);
        leastIs(9, 6, 15, 15);
        leastIs(9, 6, 0, 9);
        leastIs(9, 6, 8, 9);
        leastIs(21, 42, 32, 53);
        leastIs(63, 0, 63, 63);
        leastIs(0, 0, 0, 0);
        for (int from = 0; from < 64; from++) {
            leastIs(0, 63, from, from);
        }
    }

    private static void leastOfAnyInt() {
        Check.sentence("least: from below 0");
        leastIs(0, 0, -1, 0);
        leastIs(0, 0, MIN, 0);
        leastIs(0, 63, -1, 0);
        leastIs(0, 63, -64, 0);
        leastIs(9, 6, -55, 9);
        leastIs(9, 6, MIN, 9);
        leastIs(63, 0, MIN, 63);
        leastIs(63, 0, -1, 63);
    }

    private static void leastIfThereIsNone() {
        Check.sentence("least: 64 if there is none");
        leastIs(0, 0, 1, 64);
        leastIs(0, 63, 64, 64);
        leastIs(0, 63, 65, 64);
        leastIs(0, 63, 128, 64);
        leastIs(0, 63, MAX, 64);
        leastIs(63, 0, 64, 64);
        leastIs(9, 6, 16, 64);
        leastIs(9, 6, 63, 64);
        leastIs(9, 6, 64 + 9, 64);
        leastIs(62, 0, 63, 64);
    }

    private static void leastRefused() {
        Check.sentence("least: -1");
        for (int r : Registers.OUT_OF_RANGE) {
            for (int from : new int[] {MIN, 0, 63, 64, MAX}) {
                Registers.refused("least " + r + " from " + from, bits -> bits.least(r, from));
            }
        }
    }

    // Promise 11

    private static void countIs(int value, int mask, int low, int high, int want) {
        KnownBits there = Registers.with(value, mask);
        String call = "count of " + value + "/" + mask + " in " + low + ", " + high;
        Registers.unchanged(call, there, want, bits -> bits.count(0, low, high));
    }

    private static void countBoundsAreInside() {
        Check.sentence("count: low <= n <= high");
        countIs(9, 6, 9, 15, 4);
        countIs(9, 6, 10, 15, 3);
        countIs(9, 6, 9, 14, 3);
        countIs(9, 6, 10, 14, 2);
        countIs(9, 6, 9, 9, 1);
        countIs(9, 6, 15, 15, 1);
        countIs(0, 63, 0, 0, 1);
        countIs(0, 63, 63, 63, 1);
        countIs(0, 63, 1, 63, 63);
        countIs(0, 63, 0, 62, 63);
        countIs(0, 63, 31, 32, 2);
    }

    private static void countEmptyAndFull() {
        Check.sentence("count: How many, from 0 to 64");
        countIs(0, 63, 0, 63, 64);
        countIs(0, 0, 0, 63, 1);
        countIs(63, 0, 0, 63, 1);
        countIs(9, 6, 10, 10, 0);
        countIs(9, 6, 0, 8, 0);
        countIs(9, 6, 16, 63, 0);
        countIs(9, 6, 15, 9, 0);
        countIs(0, 63, 1, 0, 0);
        countIs(0, 63, 63, 0, 0);
        countIs(0, 0, 1, 63, 0);
        countIs(63, 0, 0, 62, 0);
    }

    private static void countOfAnyInts() {
        Check.sentence("count: bounds below 0 and over 63");
        countIs(0, 63, MIN, MAX, 64);
        countIs(0, 63, MAX, MIN, 0);
        countIs(0, 63, MIN, -1, 0);
        countIs(0, 63, 64, MAX, 0);
        countIs(0, 63, -64, -1, 0);
        countIs(0, 63, 64, 127, 0);
        countIs(0, 63, MIN, 0, 1);
        countIs(0, 63, 63, MAX, 1);
        countIs(0, 63, -1, 64, 64);
        countIs(9, 6, -3, 11, 2);
        countIs(9, 6, 11, 1000, 3);
        countIs(9, 6, MIN, MIN, 0);
        countIs(9, 6, MAX, MAX, 0);
    }

    private static void countRefused() {
        Check.sentence("count: -1");
        for (int r : Registers.OUT_OF_RANGE) {
            Registers.refused("count " + r, bits -> bits.count(r, 0, 63));
            Registers.refused("count " + r + ", none", bits -> bits.count(r, 1, 0));
            Registers.refused("count " + r + ", all", bits -> bits.count(r, MIN, MAX));
        }
    }

    private static void looksChangeNothing() {
        Check.sentence("no state change is described for compare, value, mask, least, count");
        KnownBits bits = Registers.six();
        for (int r = 0; r < 6; r++) {
            for (int how = 0; how <= 5; how++) {
                bits.compare(r, how, 5 - r);
            }
            bits.value(r);
            bits.mask(r);
            bits.least(r, 3);
            bits.least(r, 64);
            bits.count(r, 3, 40);
            bits.count(r, 40, 3);
        }
        Registers.sixStand("the looks", bits);
    }
}
