import java.util.function.ToIntFunction;

/** Objects whose registers hold given patterns, and calls that must leave them as they are. */
final class Registers {
    static final int MIN = Integer.MIN_VALUE;
    static final int MAX = Integer.MAX_VALUE;
    static final int[] OUT_OF_RANGE = {-1, 6, 7, 64, -6, MIN, MAX};

    private Registers() {
    }

    /** A new object whose registers 0, 1, .. get the given values and masks, in turn. */
    static KnownBits with(int... valuesAndMasks) {
        KnownBits bits = new KnownBits();
        for (int k = 0; k < valuesAndMasks.length; k += 2) {
            bits.set(k / 2, valuesAndMasks[k], valuesAndMasks[k + 1]);
        }
        return bits;
    }

    /** Six patterns, all unlike each other and unlike a new register's. */
    static KnownBits six() {
        return with(1, 6, 2, 24, 3, 32, 4, 3, 5, 48, 6, 9);
    }

    static void sixStand(String when, KnownBits bits) {
        hold(when, bits, 1, 6, 2, 24, 3, 32, 4, 3, 5, 48, 6, 9);
    }

    /** The registers 0, 1, .. have the given values and masks, in turn. */
    static void hold(String when, KnownBits bits, int... valuesAndMasks) {
        for (int k = 0; k < valuesAndMasks.length; k += 2) {
            Check.pattern(when, bits, k / 2, valuesAndMasks[k], valuesAndMasks[k + 1]);
        }
    }

    /** The call answers want, and every register is after it as it was. */
    static void unchanged(String what, KnownBits bits, int want, ToIntFunction<KnownBits> call) {
        int[] before = state(bits);
        Check.due(what, call.applyAsInt(bits), want);
        hold("after " + what, bits, before);
    }

    /** The call is refused by an object of six patterns, and changes none of them. */
    static void refused(String what, ToIntFunction<KnownBits> call) {
        unchanged(what, six(), -1, call);
    }

    private static int[] state(KnownBits bits) {
        int[] state = new int[12];
        for (int r = 0; r < 6; r++) {
            state[2 * r] = bits.value(r);
            state[2 * r + 1] = bits.mask(r);
        }
        return state;
    }
}
