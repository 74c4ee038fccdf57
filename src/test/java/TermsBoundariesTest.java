import java.util.function.ToIntFunction;

/** Each sentence of 'What it is', 'Terms' and promise 1 that names a boundary: a test of its own. */
public final class TermsBoundariesTest {
    private static final int MIN = Registers.MIN;
    private static final int MAX = Registers.MAX;

    public static void main(String[] args) {
        theLastOf512Calls();
        numbersAre0To63();
        sumsWrapAround();
        differencesWrapAround();
        productsWrapAround();
        noBitOfTheValueIsInTheMask();
        onlyTheBitsOutsideOfTheMaskCount();
        aPatternStandsFor1To64Numbers();
        leastPatternOfOneNumber();
        leastPatternOfTwoNumbers();
        leastPatternOfAllNumbers();
        leastPatternOfASetWithGaps();
        registersAre0To5();
        eachRegisterAtTheStart();
        registerTooSmallOrTooLarge();
        registerWrongAmongOtherFaults();
        comparisonsAreNumbered();
        Check.end();
    }

    private static void theLastOf512Calls() {
        Check.sentence("An object is used for at most 512 calls");
        lastCall("set", 0, bits -> bits.set(5, 1, 2));
        lastCall("set, refused", -1, bits -> bits.set(6, 1, 2));
        lastCall("combine", 0, bits -> bits.combine(0, 6, 0, 1));
        lastCall("combine, empty", -2, bits -> bits.combine(0, 6, 0, 2));
        lastCall("shift", 0, bits -> bits.shift(5, 0, -6));
        lastCall("narrow", 0, bits -> bits.narrow(0, 22, 54));
        lastCall("narrow, empty", -2, bits -> bits.narrow(0, 0, 20));
        lastCall("suppose", 0, bits -> bits.suppose(0, 0, 1));
        lastCall("suppose, never", -2, bits -> bits.suppose(0, 0, 2));
        lastCall("compare", 2, bits -> bits.compare(0, 0, 1));
        lastCall("value", 21, bits -> bits.value(0));
        lastCall("mask", 42, bits -> bits.mask(0));
        lastCall("least", 23, bits -> bits.least(0, 22));
        lastCall("count", 4, bits -> bits.count(0, 22, 54));
        lastCall("value, after 508 times + 1", 508 % 64, bits -> bits.value(3));
    }

    /** The last of 512 calls on registers 21/42, 53, 0 and a 3 that was counted up till then. */
    private static void lastCall(String what, int want, ToIntFunction<KnownBits> call) {
        KnownBits bits = Registers.with(21, 42, 53, 0);
        bits.set(4, 1, 0);
        for (int k = 4; k <= 511; k++) {
            Check.due("call " + k, bits.combine(3, 0, 3, 4), 0);
        }
        Check.due("call 512, " + what, call.applyAsInt(bits), want);
    }

    private static void numbersAre0To63() {
        Check.sentence("NUMBERS are 0 to 63");
        KnownBits bits = Registers.with(0, 63);
        Check.due("the first number", bits.least(0, MIN), 0);
        Check.due("the last number", bits.least(0, 63), 63);
        Check.due("no number after it", bits.least(0, 64), 64);
        Check.due("all numbers", bits.count(0, MIN, MAX), 64);
        Check.due("none below 0", bits.count(0, MIN, -1), 0);
        Check.due("none over 63", bits.count(0, 64, MAX), 0);
        Check.due("0 is one", bits.count(0, -1, 0), 1);
        Check.due("63 is one", bits.count(0, 63, 64), 1);
    }

    private static void combined(int kind, int[] a, int[] b, int value, int mask) {
        KnownBits bits = Registers.with(a[0], a[1], b[0], b[1]);
        String call = "kind " + kind + " of " + a[0] + "/" + a[1] + " and " + b[0] + "/" + b[1];
        Check.due(call, bits.combine(2, kind, 0, 1), 0);
        Check.pattern(call, bits, 2, value, mask);
    }

    private static int[] one(int number) {
        return new int[] {number, 0};
    }

    private static int[] many(int value, int mask) {
        return new int[] {value, mask};
    }

    private static void sumsWrapAround() {
        Check.sentence("arithmetic is taken modulo 64, +");
        combined(0, one(31), one(32), 63, 0);
        combined(0, one(32), one(32), 0, 0);
        combined(0, one(63), one(1), 0, 0);
        combined(0, one(1), one(63), 0, 0);
        combined(0, one(63), one(63), 62, 0);
        combined(0, many(62, 1), one(1), 0, 63);
        combined(0, many(62, 1), one(2), 0, 1);
        combined(0, many(62, 1), many(2, 1), 0, 3);
        combined(0, many(0, 63), many(0, 63), 0, 63);
        combined(0, many(0, 32), one(32), 0, 32);
    }

    private static void differencesWrapAround() {
        Check.sentence("arithmetic is taken modulo 64, -");
        combined(1, one(63), one(63), 0, 0);
        combined(1, one(0), one(0), 0, 0);
        combined(1, one(0), one(1), 63, 0);
        combined(1, one(0), one(63), 1, 0);
        combined(1, one(62), one(63), 63, 0);
        combined(1, many(0, 1), one(1), 0, 63);
        combined(1, many(0, 1), one(2), 62, 1);
        combined(1, many(0, 1), many(2, 1), 60, 3);
        combined(1, many(0, 63), many(0, 63), 0, 63);
        combined(1, many(0, 32), one(32), 0, 32);
    }

    private static void productsWrapAround() {
        Check.sentence("arithmetic is taken modulo 64, *");
        int[][] doubled = {{31, 62}, {32, 0}, {33, 2}, {63, 62}};
        for (int[] row : doubled) {
            KnownBits bits = Registers.with(row[0], 0);
            Check.due("twice " + row[0], bits.shift(0, 0, 1), 0);
            Check.pattern("twice " + row[0], bits, 0, row[1], 0);
        }
    }

    private static void apart(String when, KnownBits bits, int register) {
        Check.due(when + ": bits both in value and mask", bits.value(register) & bits.mask(register), 0);
    }

    private static void noBitOfTheValueIsInTheMask() {
        Check.sentence("a VALUE, a number none of whose bits 1 are in the mask");
        for (int mask = 0; mask < 64; mask++) {
            KnownBits bits = Registers.with(63, mask, 63 - mask, mask, 42, 21);
            apart("set 63/" + mask, bits, 0);
            apart("set " + (63 - mask) + "/" + mask, bits, 1);
            for (int kind = 0; kind < 7; kind++) {
                bits.combine(3, kind, 0, 2);
                apart("combine " + kind + " with mask " + mask, bits, 3);
            }
            for (int by = -6; by <= 6; by++) {
                bits.shift(3, 0, by);
                apart("shift by " + by + " with mask " + mask, bits, 3);
            }
            bits.suppose(1, 4, 2);
            apart("suppose, a with mask " + mask, bits, 1);
            apart("suppose, b with mask " + mask, bits, 2);
            bits.narrow(0, 20, 62);
            apart("narrow with mask " + mask, bits, 0);
        }
    }

    private static void onlyTheBitsOutsideOfTheMaskCount() {
        Check.sentence("all numbers n whose bits outside of the mask are those of the value");
        int[][] patterns = {{0, 0}, {63, 0}, {0, 63}, {62, 1}, {31, 32}, {0, 1}, {0, 32}, {21, 42}, {32, 30}};
        for (int[] pattern : patterns) {
            KnownBits bits = Registers.with(pattern[0], pattern[1]);
            for (int n = 0; n < 64; n++) {
                int want = n - (n & pattern[1]) == pattern[0] ? 1 : 0;
                String call = pattern[0] + "/" + pattern[1] + " stands for " + n;
                Check.due(call, bits.count(0, n, n), want);
            }
        }
    }

    private static void aPatternStandsFor1To64Numbers() {
        Check.sentence("there are 1, 2, 4 .. or 64 of them");
        for (int mask = 0; mask < 64; mask++) {
            int want = 1;
            for (int bit = 1; bit < 64; bit *= 2) {
                want *= (mask & bit) == 0 ? 1 : 2;
            }
            KnownBits bits = Registers.with(0, mask, 63, mask);
            Check.due("value 0, mask " + mask, bits.count(0, 0, 63), want);
            Check.due("value full, mask " + mask, bits.count(1, 0, 63), want);
        }
    }

    private static void leastPatternOfOneNumber() {
        Check.sentence("LEAST PATTERN, of one number");
        for (int n = 0; n < 64; n++) {
            KnownBits bits = Registers.with(0, 63);
            bits.narrow(0, n, n);
            Check.pattern("narrow to " + n, bits, 0, n, 0);
        }
    }

    private static void leastPatternOfTwoNumbers() {
        Check.sentence("its mask is the set of bits in which two numbers of the set differ");
        for (int x = 0; x < 64; x++) {
            for (int y = 0; y < 64; y++) {
                combined(5, one(x), one(y), x & y, x ^ y);
            }
        }
    }

    private static void leastPatternOfAllNumbers() {
        Check.sentence("LEAST PATTERN, of all numbers");
        combined(5, many(0, 63), many(0, 63), 0, 63);
        combined(6, many(0, 63), many(0, 63), 0, 63);
        combined(5, many(0, 31), many(32, 31), 0, 63);
        combined(5, many(0, 62), many(1, 62), 0, 63);
    }

    private static void leastPatternOfASetWithGaps() {
        Check.sentence("LEAST PATTERN, the one that stands for all its numbers");
        KnownBits bits = Registers.with(0, 63, 0, 1);
        bits.narrow(0, 31, 32);
        Check.due("31 and 32 have no bit in common", bits.count(0, 0, 63), 64);
        bits.combine(2, 0, 1, 1);
        Check.pattern("0, 1 and 2", bits, 2, 0, 3);
        Check.due("0, 1 and 2 bring 3 with them", bits.count(2, 3, 3), 1);
        bits.set(3, 0, 63);
        bits.narrow(3, 41, 46);
        Check.pattern("41 to 46 keep the bits that all have", bits, 3, 40, 7);
    }

    private static void registersAre0To5() {
        Check.sentence("REGISTERS 0 to 5 hold patterns");
        for (int r = 0; r < 6; r++) {
            int other = 5 - r;
            KnownBits bits = Registers.with(9, 2, 9, 2, 9, 2, 9, 2, 9, 2, 9, 2);
            Check.due("set " + r, bits.set(r, 8, 3), 0);
            onlyHas("set", bits, r, 8, 3);
            Check.due("combine " + r, bits.combine(r, 6, r, other), 0);
            onlyHas("combine", bits, r, 9, 2);
            Check.due("shift " + r, bits.shift(r, r, 1), 0);
            onlyHas("shift", bits, r, 18, 4);
            Check.due("shift from " + other, bits.shift(r, other, 1), 0);
            onlyHas("shift from another", bits, r, 18, 4);
            Check.due("narrow " + r, bits.narrow(r, 19, 22), 0);
            onlyHas("narrow", bits, r, 22, 0);
            bits.set(r, 0, 63);
            Check.due("suppose " + r, bits.suppose(r, 0, other), 0);
            onlyHas("suppose, a", bits, r, 9, 2);
            bits.set(r, 0, 63);
            Check.due("suppose with " + r, bits.suppose(other, 0, r), 0);
            onlyHas("suppose, b", bits, r, 9, 2);
            bits.set(r, 40, 1);
            Check.due("compare " + r, bits.compare(r, 5, other), 1);
            Check.due("compare with " + r, bits.compare(other, 5, r), 0);
            Check.due("least " + r, bits.least(r, 41), 41);
            Check.due("count " + r, bits.count(r, 0, 63), 2);
            onlyHas("the looks", bits, r, 40, 1);
        }
    }

    /** The register has this pattern, and all others still have 9/2. */
    private static void onlyHas(String when, KnownBits bits, int register, int value, int mask) {
        for (int r = 0; r < 6; r++) {
            boolean changed = r == register;
            Check.pattern(when + " " + register, bits, r, changed ? value : 9, changed ? mask : 2);
        }
    }

    private static void eachRegisterAtTheStart() {
        Check.sentence("at the start each has value 0 and mask 0");
        Registers.hold("new", new KnownBits(), 0, 0, 0, 0, 0, 0, 0, 0, 0, 0, 0, 0);
        KnownBits used = Registers.six();
        Registers.hold("new after another", new KnownBits(), 0, 0, 0, 0, 0, 0, 0, 0, 0, 0, 0, 0);
        Registers.sixStand("used, after a new one", used);
        for (int r = 0; r < 6; r++) {
            Check.due("new: count of " + r, new KnownBits().count(r, MIN, MAX), 1);
            Check.due("new: least of " + r, new KnownBits().least(r, MIN), 0);
            Check.due("new: " + r + " is 0", new KnownBits().compare(r, 0, 5 - r), 1);
        }
    }

    private static void registerTooSmallOrTooLarge() {
        Check.sentence("A register number out of range is refused");
        for (int r : Registers.OUT_OF_RANGE) {
            Registers.refused("set " + r, bits -> bits.set(r, 63, 0));
            for (int k = 0; k <= 6; k++) {
                int kind = k;
                Registers.refused("combine into " + r, bits -> bits.combine(r, kind, 0, 1));
                Registers.refused("combine a " + r, bits -> bits.combine(2, kind, r, 1));
                Registers.refused("combine b " + r, bits -> bits.combine(2, kind, 0, r));
            }
            Registers.refused("shift into " + r, bits -> bits.shift(r, 0, 1));
            Registers.refused("shift a " + r, bits -> bits.shift(2, r, 1));
            Registers.refused("narrow " + r, bits -> bits.narrow(r, 0, 63));
            for (int h = 0; h <= 5; h++) {
                int how = h;
                Registers.refused("suppose a " + r, bits -> bits.suppose(r, how, 0));
                Registers.refused("suppose b " + r, bits -> bits.suppose(0, how, r));
                Registers.refused("compare a " + r, bits -> bits.compare(r, how, 0));
                Registers.refused("compare b " + r, bits -> bits.compare(0, how, r));
            }
            Registers.refused("value " + r, bits -> bits.value(r));
            Registers.refused("mask " + r, bits -> bits.mask(r));
            Registers.refused("least " + r, bits -> bits.least(r, 0));
            Registers.refused("count " + r, bits -> bits.count(r, 0, 63));
        }
    }

    private static void registerWrongAmongOtherFaults() {
        Check.sentence("A register number out of range is refused, whatever else is wrong");
        for (int r : Registers.OUT_OF_RANGE) {
            Registers.refused("combine, all wrong " + r, bits -> bits.combine(r, 7, r, r));
            // Registers 1 and 2 of the six have no number in common: else this would answer -2.
            Registers.refused("combine, empty into " + r, bits -> bits.combine(r, 6, 1, 2));
            Registers.refused("shift, all wrong " + r, bits -> bits.shift(r, r, 7));
            Registers.refused("narrow, empty " + r, bits -> bits.narrow(r, 1, 0));
            Registers.refused("suppose, all wrong " + r, bits -> bits.suppose(r, 6, r));
            Registers.refused("suppose, a = b " + r, bits -> bits.suppose(r, 0, r));
            Registers.refused("compare, all wrong " + r, bits -> bits.compare(r, 6, r));
            Registers.refused("compare, a = b " + r, bits -> bits.compare(r, 0, r));
            Registers.refused("least, none " + r, bits -> bits.least(r, 64));
            Registers.refused("count, none " + r, bits -> bits.count(r, 1, 0));
        }
    }

    private static void comparisonsAreNumbered() {
        Check.sentence("COMPARISONS are numbered");
        int[] below = {0, 1, 1, 1, 0, 0};
        int[] equal = {1, 0, 1, 0, 1, 0};
        int[] above = {0, 0, 0, 1, 1, 1};
        // 31 and 32 stand here because six bits with a sign would order them the other way.
        int[][] ordered = {{0, 1}, {0, 63}, {31, 32}, {62, 63}, {0, 32}};
        for (int[] pair : ordered) {
            numbered(pair[0], pair[1], below);
            numbered(pair[1], pair[0], above);
            numbered(pair[0], pair[0], equal);
            numbered(pair[1], pair[1], equal);
        }
    }

    private static void numbered(int x, int y, int[] wants) {
        for (int how = 0; how < 6; how++) {
            String call = x + " how " + how + " " + y;
            Check.due("compare " + call, Registers.with(x, 0, y, 0).compare(0, how, 1), wants[how]);
            int want = wants[how] == 1 ? 0 : -2;
            Check.due("suppose " + call, Registers.with(x, 0, y, 0).suppose(0, how, 1), want);
        }
    }
}
