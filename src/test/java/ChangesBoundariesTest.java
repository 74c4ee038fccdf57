/** Each sentence of the promises 2 to 6 that names a boundary case: a test of its own. */
public final class ChangesBoundariesTest {
    private static final int MIN = Registers.MIN;
    private static final int MAX = Registers.MAX;

    public static void main(String[] args) {
        setMaskAnd63();
        setValueAnd63();
        setBitsNotInTheMask();
        setTakesTheWholePattern();
        setRefused();
        combineChosenApart();
        combineOntoItsOwnRegisters();
        combineEveryKind();
        combineKind5();
        combineKind6();
        combineKindTooSmallOrTooLarge();
        combineEmptyChangesNothing();
        combineEmptyOnlyForKind6();
        shiftLeftToTheEnd();
        shiftRightToTheEnd();
        shiftOfFullAndOfPart();
        shiftTooFar();
        narrowBoundsAreInside();
        narrowAnyInts();
        narrowToTheLeastPattern();
        narrowEmptyChangesNothing();
        narrowRefused();
        supposeKeepsThoseWithPartner();
        supposeAtTheFirstAndLastNumber();
        supposeBothSides();
        supposeHowTooSmallOrTooLarge();
        supposeOfOneRegister();
        supposeNeverChangesNothing();
        Check.end();
    }

    // Promise 2

    private static void setTo(int value, int mask, int wantValue, int wantMask) {
        KnownBits bits = Registers.with(42, 21);
        String call = "set " + value + ", " + mask;
        Check.due(call, bits.set(0, value, mask), 0);
        Check.pattern(call, bits, 0, wantValue, wantMask);
    }

    private static void setMaskAnd63() {
        Check.sentence("set: The register gets the mask mask & 63");
        setTo(0, 0, 0, 0);
        setTo(0, 63, 0, 63);
        setTo(0, 64, 0, 0);
        setTo(0, 65, 0, 1);
        setTo(0, 127, 0, 63);
        setTo(0, -1, 0, 63);
        setTo(0, -64, 0, 0);
        setTo(0, -65, 0, 63);
        setTo(0, MIN, 0, 0);
        setTo(0, MAX, 0, 63);
    }

    private static void setValueAnd63() {
        Check.sentence("set: as value the bits of value & 63");
        setTo(63, 0, 63, 0);
        setTo(64, 0, 0, 0);
        setTo(65, 0, 1, 0);
        setTo(127, 0, 63, 0);
        setTo(-1, 0, 63, 0);
        setTo(-63, 0, 1, 0);
        setTo(-64, 0, 0, 0);
        setTo(-65, 0, 63, 0);
        setTo(MIN, 0, 0, 0);
        setTo(MAX, 0, 63, 0);
    }

    private static void setBitsNotInTheMask() {
        Check.sentence("set: that are not in the mask");
        setTo(63, 63, 0, 63);
        setTo(1, 1, 0, 1);
        setTo(32, 32, 0, 32);
        setTo(63, 62, 1, 62);
        setTo(63, 31, 32, 31);
        setTo(-1, 21, 42, 21);
        // A mask over 63 takes only its six lowest bits from the value.
        setTo(63, 64, 63, 0);
        setTo(63, 64 + 8, 55, 8);
        setTo(63, -64, 63, 0);
        setTo(63, MIN, 63, 0);
        setTo(-1, -1, 0, 63);
        setTo(MAX, MAX, 0, 63);
    }

    private static void setTakesTheWholePattern() {
        Check.sentence("set: nothing of the earlier pattern stays");
        KnownBits bits = Registers.with(0, 63);
        bits.set(0, 5, 0);
        Check.pattern("a number after all", bits, 0, 5, 0);
        bits.set(0, 0, 63);
        Check.pattern("all after a number", bits, 0, 0, 63);
        bits.set(0, 0, 0);
        Check.pattern("0 after all", bits, 0, 0, 0);
    }

    private static void setRefused() {
        Check.sentence("set: Answers 0, or -1");
        Check.due("set register 0", new KnownBits().set(0, MIN, MAX), 0);
        Check.due("set register 5", new KnownBits().set(5, MAX, MIN), 0);
        Registers.refused("set register -1", bits -> bits.set(-1, 63, 0));
        Registers.refused("set register 6", bits -> bits.set(6, 0, 63));
    }

    // Promise 3

    private static void combined(int kind, int[] registers, int a, int b, int value, int mask) {
        KnownBits bits = Registers.with(registers);
        String call = "combine " + kind + ", " + a + ", " + b;
        Check.due(call, bits.combine(5, kind, a, b), 0);
        Check.pattern(call, bits, 5, value, mask);
        Registers.hold("after " + call, bits, registers);
    }

    private static void combineChosenApart() {
        Check.sentence("combine: chosen apart, also if a = b");
        int[] two = {8, 2};
        combined(0, two, 0, 0, 16, 6);
        combined(1, two, 0, 0, 0, 62);
        combined(2, two, 0, 0, 8, 2);
        combined(3, two, 0, 0, 8, 2);
        combined(4, two, 0, 0, 0, 2);
        combined(5, two, 0, 0, 8, 2);
        combined(6, two, 0, 0, 8, 2);
        int[] all = {0, 63};
        for (int kind = 0; kind <= 6; kind++) {
            combined(kind, all, 0, 0, 0, 63);
        }
        int[] one = {63, 0};
        int[] ofOne = {62, 0, 63, 63, 0, 63, 63};
        for (int kind = 0; kind <= 6; kind++) {
            combined(kind, one, 0, 0, ofOne[kind], 0);
        }
    }

    private static void combineOntoItsOwnRegisters() {
        Check.sentence("combine: The register dst becomes, also if it is a or b");
        KnownBits ontoA = Registers.with(5, 0, 3, 0);
        Check.due("onto a", ontoA.combine(0, 1, 0, 1), 0);
        Registers.hold("onto a", ontoA, 2, 0, 3, 0);
        KnownBits ontoB = Registers.with(5, 0, 3, 0);
        Check.due("onto b", ontoB.combine(1, 1, 0, 1), 0);
        Registers.hold("onto b", ontoB, 5, 0, 2, 0);
        KnownBits ontoBoth = Registers.with(8, 2, 3, 0);
        Check.due("onto both", ontoBoth.combine(0, 1, 0, 0), 0);
        Registers.hold("onto both", ontoBoth, 0, 62, 3, 0);
    }

    private static void combineEveryKind() {
        Check.sentence("combine: by kind, 0 to 4");
        int[] ends = {0, 0, 63, 0, 0, 63, 32, 0, 31, 0};
        combined(0, ends, 2, 0, 0, 63);
        combined(0, ends, 3, 4, 63, 0);
        combined(1, ends, 0, 1, 1, 0);
        combined(1, ends, 3, 4, 1, 0);
        combined(1, ends, 4, 3, 63, 0);
        combined(2, ends, 2, 0, 0, 0);
        combined(2, ends, 2, 1, 0, 63);
        combined(2, ends, 2, 3, 0, 32);
        combined(2, ends, 3, 4, 0, 0);
        combined(3, ends, 2, 0, 0, 63);
        combined(3, ends, 2, 1, 63, 0);
        combined(3, ends, 2, 3, 32, 31);
        combined(3, ends, 3, 4, 63, 0);
        combined(4, ends, 2, 1, 0, 63);
        combined(4, ends, 1, 1, 0, 0);
        combined(4, ends, 1, 0, 63, 0);
        combined(4, ends, 3, 4, 63, 0);
    }

    private static void combineKind5() {
        Check.sentence("combine: 5 both x and y are results");
        combined(5, new int[] {0, 0, 63, 0}, 0, 1, 0, 63);
        combined(5, new int[] {31, 0, 32, 0}, 0, 1, 0, 63);
        combined(5, new int[] {9, 0, 9, 0}, 0, 1, 9, 0);
        combined(5, new int[] {8, 1, 9, 0}, 0, 1, 8, 1);
        combined(5, new int[] {9, 0, 8, 1}, 0, 1, 8, 1);
        combined(5, new int[] {8, 1, 12, 0}, 0, 1, 8, 5);
        combined(5, new int[] {0, 63, 12, 0}, 0, 1, 0, 63);
    }

    private static void combineKind6() {
        Check.sentence("combine: 6 x, if register b stands for x too");
        combined(6, new int[] {0, 63, 63, 0}, 0, 1, 63, 0);
        combined(6, new int[] {63, 0, 0, 63}, 0, 1, 63, 0);
        combined(6, new int[] {0, 0, 0, 63}, 0, 1, 0, 0);
        combined(6, new int[] {8, 5, 1, 12}, 0, 1, 9, 4);
        combined(6, new int[] {8, 5, 9, 50}, 0, 1, 9, 0);
        combined(6, new int[] {0, 31, 0, 62}, 0, 1, 0, 30);
    }

    private static void combineKindTooSmallOrTooLarge() {
        Check.sentence("combine: -1 (also if kind is not from 0 to 6)");
        for (int kind : new int[] {-1, 7, 8, -6, 64, MIN, MAX}) {
            Registers.refused("kind " + kind, bits -> bits.combine(0, kind, 1, 2));
            Registers.refused("kind " + kind + ", one register", bits -> bits.combine(0, kind, 0, 0));
        }
        Check.due("kind 0", Registers.six().combine(0, 0, 1, 2), 0);
        Check.due("kind 6", Registers.six().combine(0, 6, 0, 2), 0);
    }

    private static void combineEmptyChangesNothing() {
        Check.sentence("combine: -2, and changes nothing, if the set is empty");
        int[][] disjoint = {{0, 0, 63, 0}, {8, 5, 2, 12}, {0, 62, 1, 62}, {0, 31, 32, 31}, {7, 0, 6, 0}};
        for (int[] pair : disjoint) {
            for (int r = 0; r < 3; r++) {
                int dst = r;
                KnownBits there = Registers.with(pair[0], pair[1], pair[2], pair[3], 33, 2);
                Registers.unchanged("into " + dst, there, -2, bits -> bits.combine(dst, 6, 0, 1));
                KnownBits turned = Registers.with(pair[0], pair[1], pair[2], pair[3], 33, 2);
                Registers.unchanged("turned into " + dst, turned, -2, bits -> bits.combine(dst, 6, 1, 0));
            }
        }
    }

    private static void combineEmptyOnlyForKind6() {
        Check.sentence("combine: -2 only for kind 6");
        for (int kind = 0; kind <= 5; kind++) {
            Check.due("kind " + kind + " of 0 and 63", Registers.with(0, 0, 63, 0).combine(2, kind, 0, 1), 0);
            Check.due("kind " + kind + " of two halves", Registers.with(0, 31, 32, 31).combine(2, kind, 0, 1), 0);
            Check.due("kind " + kind + " of 0 and 0", new KnownBits().combine(2, kind, 0, 1), 0);
        }
    }

    // Promise 4

    private static void shifted(int value, int mask, int by, int wantValue, int wantMask) {
        String call = "shift " + value + "/" + mask + " by " + by;
        KnownBits away = Registers.with(value, mask, 42, 21);
        Check.due(call, away.shift(1, 0, by), 0);
        Registers.hold(call, away, value, mask, wantValue, wantMask);
        KnownBits onto = Registers.with(value, mask, 42, 21);
        Check.due(call + " onto itself", onto.shift(0, 0, by), 0);
        Registers.hold(call + " onto itself", onto, wantValue, wantMask, 42, 21);
    }

    private static void shiftLeftToTheEnd() {
        Check.sentence("shift: all x * 2^by modulo 64 (by from 0 to 6)");
        int[][] rows = {
            {0, 0, 0, 0, 0, 0, 0}, {1, 2, 4, 8, 16, 32, 0}, {32, 0, 0, 0, 0, 0, 0}, {33, 2, 4, 8, 16, 32, 0},
            {31, 62, 60, 56, 48, 32, 0}, {63, 62, 60, 56, 48, 32, 0}, {42, 20, 40, 16, 32, 0, 0},
        };
        for (int[] row : rows) {
            for (int by = 0; by <= 6; by++) {
                shifted(row[0], 0, by, row[by], 0);
            }
        }
    }

    private static void shiftRightToTheEnd() {
        Check.sentence("shift: x / 2^-by rounded down (by from -6 to -1)");
        int[][] rows = {
            {0, 0, 0, 0, 0, 0, 0}, {1, 0, 0, 0, 0, 0, 0}, {32, 16, 8, 4, 2, 1, 0}, {33, 16, 8, 4, 2, 1, 0},
            {31, 15, 7, 3, 1, 0, 0}, {63, 31, 15, 7, 3, 1, 0}, {3, 1, 0, 0, 0, 0, 0},
        };
        for (int[] row : rows) {
            for (int right = 1; right <= 6; right++) {
                shifted(row[0], 0, -right, row[right], 0);
            }
        }
    }

    private static void shiftOfFullAndOfPart() {
        Check.sentence("shift: the least pattern of the set");
        int[] left = {63, 62, 60, 56, 48, 32, 0};
        int[] right = {63, 31, 15, 7, 3, 1, 0};
        for (int by = 0; by <= 6; by++) {
            shifted(0, 63, by, 0, left[by]);
            shifted(0, 63, -by, 0, right[by]);
        }
        shifted(6, 1, -1, 3, 0);
        shifted(31, 32, 1, 62, 0);
        shifted(62, 1, -6, 0, 0);
        shifted(0, 33, 5, 0, 32);
        shifted(0, 33, -5, 0, 1);
        shifted(0, 30, 5, 0, 0);
        shifted(0, 30, -5, 0, 0);
    }

    private static void shiftTooFar() {
        Check.sentence("shift: -1 (also if by is not from -6 to 6)");
        for (int by : new int[] {-7, 7, -8, 8, 31, -31, 32, -32, 33, -33, 64, -64, MIN, MIN + 1, MAX}) {
            Registers.refused("by " + by, bits -> bits.shift(0, 1, by));
            Registers.refused("by " + by + " onto itself", bits -> bits.shift(5, 5, by));
        }
        Registers.refused("register 6", bits -> bits.shift(6, 0, 0));
        Registers.refused("from register -1", bits -> bits.shift(0, -1, 0));
    }

    // Promise 5

    private static void narrowed(int value, int mask, int low, int high, int wantValue, int wantMask) {
        KnownBits bits = Registers.with(value, mask, 42, 21);
        String call = "narrow " + value + "/" + mask + " to " + low + ", " + high;
        Check.due(call, bits.narrow(0, low, high), 0);
        Registers.hold(call, bits, wantValue, wantMask, 42, 21);
    }

    private static void narrowBoundsAreInside() {
        Check.sentence("narrow: low <= n <= high");
        narrowed(0, 63, 0, 0, 0, 0);
        narrowed(0, 63, 63, 63, 63, 0);
        narrowed(0, 63, 0, 1, 0, 1);
        narrowed(0, 63, 62, 63, 62, 1);
        narrowed(0, 63, 0, 63, 0, 63);
        narrowed(9, 6, 9, 9, 9, 0);
        narrowed(9, 6, 15, 15, 15, 0);
        narrowed(9, 6, 9, 11, 9, 2);
        narrowed(9, 6, 10, 14, 9, 6);
        narrowed(9, 6, 12, 14, 13, 0);
        narrowed(9, 6, 13, 15, 13, 2);
        narrowed(9, 6, 9, 15, 9, 6);
        narrowed(17, 0, 17, 17, 17, 0);
    }

    private static void narrowAnyInts() {
        Check.sentence("narrow: (any ints)");
        narrowed(0, 63, MIN, MAX, 0, 63);
        narrowed(0, 63, MIN, 0, 0, 0);
        narrowed(0, 63, 63, MAX, 63, 0);
        narrowed(0, 63, -1, 1, 0, 1);
        narrowed(0, 63, 62, 64, 62, 1);
        narrowed(0, 63, -64, 7, 0, 7);
        narrowed(0, 63, 56, 128, 56, 7);
        narrowed(17, 0, MIN, MAX, 17, 0);
    }

    private static void narrowToTheLeastPattern() {
        Check.sentence("narrow: becomes the least pattern");
        narrowed(0, 63, 31, 32, 0, 63);
        narrowed(0, 63, 1, 62, 0, 63);
        narrowed(0, 63, 0, 62, 0, 63);
        narrowed(0, 63, 0, 32, 0, 63);
        narrowed(0, 63, 0, 31, 0, 31);
        narrowed(0, 63, 32, 63, 32, 31);
        narrowed(0, 63, 41, 46, 40, 7);
        narrowed(21, 42, 22, 54, 21, 42);
        narrowed(21, 42, 22, 52, 21, 10);
    }

    private static void narrowEmptyChangesNothing() {
        Check.sentence("narrow: -2, and changes nothing, if there is no such number");
        int[][] rows = {
            {0, 63, 64, 127}, {0, 63, 64, MAX}, {0, 63, -64, -1}, {0, 63, MIN, -1}, {0, 63, 1, 0},
            {0, 63, 63, 0}, {0, 63, MAX, MIN}, {0, 63, 64, 0}, {0, 63, 63, -1}, {9, 6, 10, 10}, {9, 6, 14, 14},
            {9, 6, 0, 8}, {9, 6, 16, 63}, {9, 6, 15, 9}, {17, 0, 0, 16}, {17, 0, 18, 63}, {17, 0, 18, 16},
            {0, 0, 1, 63}, {0, 0, MIN, -1}, {63, 0, 0, 62}, {63, 0, 64, MAX}, {0, 0, 64, 64}, {63, 0, -1, -1},
        };
        for (int[] row : rows) {
            String call = row[0] + "/" + row[1] + " to " + row[2] + ", " + row[3];
            KnownBits there = Registers.with(row[0], row[1], 42, 21);
            Registers.unchanged(call, there, -2, bits -> bits.narrow(0, row[2], row[3]));
        }
    }

    private static void narrowRefused() {
        Check.sentence("narrow: Answers 0; -1");
        Registers.refused("register -1", bits -> bits.narrow(-1, 0, 63));
        Registers.refused("register 6", bits -> bits.narrow(6, 0, 63));
        Registers.refused("register 6, empty", bits -> bits.narrow(6, 64, MAX));
        Registers.refused("register -1, empty", bits -> bits.narrow(-1, 1, 0));
    }

    // Promise 6

    private static void supposed(int[] before, int how, int valueA, int maskA, int valueB, int maskB) {
        String call = "suppose " + before[0] + "/" + before[1] + " how " + how + " " + before[2] + "/" + before[3];
        KnownBits bits = Registers.with(before[0], before[1], before[2], before[3], 42, 21);
        Check.due(call, bits.suppose(0, how, 1), 0);
        Registers.hold(call, bits, valueA, maskA, valueB, maskB, 42, 21);
        KnownBits turned = Registers.with(before[2], before[3], before[0], before[1], 42, 21);
        Check.due(call + ", a after b", turned.suppose(1, how, 0), 0);
        Registers.hold(call + ", a after b", turned, valueB, maskB, valueA, maskA, 42, 21);
    }

    private static void supposeKeepsThoseWithPartner() {
        Check.sentence("suppose: the set of all x for which there is a y so that it holds");
        supposed(new int[] {4, 1, 5, 2}, 0, 5, 0, 5, 0);
        supposed(new int[] {4, 1, 4, 1}, 1, 4, 0, 5, 0);
        supposed(new int[] {4, 1, 4, 1}, 2, 4, 1, 4, 1);
        supposed(new int[] {4, 1, 5, 0}, 3, 4, 0, 5, 0);
        supposed(new int[] {5, 0, 4, 1}, 3, 5, 0, 4, 0);
        supposed(new int[] {4, 1, 4, 1}, 3, 4, 1, 4, 1);
        supposed(new int[] {4, 1, 5, 2}, 4, 5, 0, 5, 0);
        supposed(new int[] {4, 1, 4, 1}, 4, 4, 1, 4, 1);
        supposed(new int[] {4, 1, 4, 1}, 5, 5, 0, 4, 0);
    }

    private static void supposeAtTheFirstAndLastNumber() {
        Check.sentence("suppose: at 0 and at 63");
        supposed(new int[] {0, 63, 0, 0}, 0, 0, 0, 0, 0);
        supposed(new int[] {0, 63, 63, 0}, 0, 63, 0, 63, 0);
        supposed(new int[] {0, 63, 1, 0}, 1, 0, 0, 1, 0);
        supposed(new int[] {62, 0, 0, 63}, 1, 62, 0, 63, 0);
        supposed(new int[] {0, 63, 0, 0}, 2, 0, 0, 0, 0);
        supposed(new int[] {63, 0, 0, 63}, 2, 63, 0, 63, 0);
        supposed(new int[] {0, 63, 0, 0}, 3, 0, 63, 0, 0);
        supposed(new int[] {62, 1, 63, 0}, 3, 62, 0, 63, 0);
        supposed(new int[] {0, 63, 63, 0}, 4, 63, 0, 63, 0);
        supposed(new int[] {0, 0, 0, 63}, 4, 0, 0, 0, 0);
        supposed(new int[] {0, 63, 62, 0}, 5, 63, 0, 62, 0);
        supposed(new int[] {1, 0, 0, 63}, 5, 1, 0, 0, 0);
        for (int how = 0; how <= 5; how++) {
            supposed(new int[] {0, 63, 0, 63}, how, 0, 63, 0, 63);
        }
    }

    private static void supposeBothSides() {
        Check.sentence("suppose: both from the registers as they were");
        supposed(new int[] {0, 3, 2, 1}, 5, 3, 0, 2, 0);
        supposed(new int[] {0, 3, 2, 1}, 4, 2, 1, 2, 1);
        supposed(new int[] {2, 1, 0, 3}, 1, 2, 0, 3, 0);
        supposed(new int[] {8, 5, 1, 12}, 0, 9, 4, 9, 4);
        supposed(new int[] {0, 12, 5, 8}, 4, 8, 4, 5, 0);
        supposed(new int[] {0, 31, 16, 32}, 5, 16, 15, 16, 0);
    }

    private static void supposeHowTooSmallOrTooLarge() {
        Check.sentence("suppose: -1 (also if how is not from 0 to 5)");
        for (int how : new int[] {-1, 6, 7, -5, 64, MIN, MAX}) {
            Registers.refused("how " + how, bits -> bits.suppose(0, how, 1));
            Registers.refused("how " + how + ", a after b", bits -> bits.suppose(5, how, 2));
            Registers.refused("how " + how + ", a = b", bits -> bits.suppose(3, how, 3));
            KnownBits wide = Registers.with(0, 63, 0, 63);
            Registers.unchanged("how " + how + " of all numbers", wide, -1, bits -> bits.suppose(0, how, 1));
        }
    }

    private static void supposeOfOneRegister() {
        Check.sentence("suppose: -1 (also if a = b)");
        for (int how = 0; how <= 5; how++) {
            int h = how;
            for (int r = 0; r < 6; r++) {
                int both = r;
                Registers.refused("how " + h + " of " + both, bits -> bits.suppose(both, h, both));
                Registers.unchanged("how " + h + " of a new " + both, new KnownBits(), -1,
                        bits -> bits.suppose(both, h, both));
            }
        }
        // Two registers with one pattern are not one register.
        Check.due("a and b alike", Registers.with(9, 6, 9, 6).suppose(0, 0, 1), 0);
    }

    private static void supposeNeverChangesNothing() {
        Check.sentence("suppose: -2, and changes nothing, if it holds for no x and y");
        int[][] rows = {
            {0, 0, 0, 63, 0}, {4, 1, 0, 6, 1}, {0, 62, 0, 1, 62}, {0, 63, 1, 0, 0}, {63, 0, 1, 0, 63},
            {5, 0, 1, 5, 0}, {6, 1, 1, 4, 1}, {1, 0, 2, 0, 0}, {6, 1, 2, 4, 1}, {48, 3, 2, 32, 7},
            {5, 0, 3, 5, 0}, {0, 0, 3, 0, 0}, {63, 0, 3, 63, 0}, {4, 1, 4, 6, 1}, {62, 0, 4, 63, 0},
            {0, 63, 5, 63, 0}, {0, 0, 5, 0, 63}, {5, 0, 5, 5, 0}, {4, 1, 5, 5, 2},
        };
        for (int[] row : rows) {
            String call = row[0] + "/" + row[1] + " how " + row[2] + " " + row[3] + "/" + row[4];
            KnownBits there = Registers.with(row[0], row[1], row[3], row[4], 42, 21);
            Registers.unchanged(call, there, -2, bits -> bits.suppose(0, row[2], 1));
            KnownBits turned = Registers.with(row[3], row[4], row[0], row[1], 42, 21);
            Registers.unchanged(call + ", a after b", turned, -2, bits -> bits.suppose(1, row[2], 0));
        }
    }
}
