/**
 * Runs of the 512 calls that an object is used for, wrong inputs among them, against the model;
 * after every call all registers are looked at. A fixed sequence, so that a fault comes again.
 */
public final class LongRunsTest {
    private static final int RUNS = 300;
    // 512 calls in all: after a call that may change something come twelve that look.
    private static final int CALLS_CHANGING = 512 / 13;
    private static long state = 20261115L;

    public static void main(String[] args) {
        for (int run = 0; run < RUNS; run++) {
            watchedRun(run);
            bareRun(run);
        }
        Check.end();
    }

    private static int below(int bound) {
        state = state * 6364136223846793005L + 1442695040888963407L;
        return (int) ((state >>> 33) % bound);
    }

    /** Mostly from low to high, now and then one step outside, seldom far off. */
    private static int around(int low, int high) {
        int odd = below(40);
        if (odd == 0) {
            return low - 1;
        }
        if (odd == 1) {
            return high + 1;
        }
        if (odd == 2) {
            return below(2) == 0 ? Integer.MIN_VALUE : Integer.MAX_VALUE;
        }
        return low + below(high - low + 1);
    }

    private static int sparseMask() {
        return below(64) & (below(3) == 0 ? 63 : below(64));
    }

    private static void call(int run, int nr, KnownBits bits, Model model) {
        int p = around(0, 5);
        int q = around(0, 5);
        int r = around(0, 5);
        int low = around(-2, 65);
        int high = low == Integer.MAX_VALUE ? low : below(5) == 0 ? around(-2, 65) : low + below(40);
        String at = "run " + run + " call " + nr;
        switch (below(9)) {
            case 0, 1 -> {
                int value = around(-100, 100);
                int mask = below(10) == 0 ? around(-100, 100) : sparseMask();
                Check.due(bits.set(p, value, mask), model.set(p, value, mask), at, "set", p, value, mask);
            }
            case 2, 3 -> {
                int kind = around(0, 6);
                Check.due(bits.combine(p, kind, q, r), model.combine(p, kind, q, r), at, "combine", p, kind, q, r);
            }
            case 4 -> {
                int by = around(-6, 6);
                Check.due(bits.shift(p, q, by), model.shift(p, q, by), at, "shift", p, q, by);
            }
            case 5 -> Check.due(bits.narrow(p, low, high), model.narrow(p, low, high), at, "narrow", p, low, high);
            case 6 -> {
                int how = around(0, 5);
                Check.due(bits.suppose(p, how, q), model.suppose(p, how, q), at, "suppose", p, how, q);
            }
            case 7 -> {
                int how = around(0, 5);
                Check.due(bits.compare(p, how, q), model.compare(p, how, q), at, "compare", p, how, q);
            }
            default -> {
                if (below(2) == 0) {
                    Check.due(bits.least(p, low), model.least(p, low), at, "least", p, low);
                } else {
                    Check.due(bits.count(p, low, high), model.count(p, low, high), at, "count", p, low, high);
                }
            }
        }
    }

    private static void look(int run, int nr, KnownBits bits, Model model) {
        for (int r = 0; r < 6; r++) {
            Check.due(bits.value(r), model.value(r), "run", run, "after", nr, "value", r);
            Check.due(bits.mask(r), model.mask(r), "run", run, "after", nr, "mask", r);
        }
    }

    private static void watchedRun(int run) {
        KnownBits bits = new KnownBits();
        Model model = new Model();
        for (int nr = 0; nr < CALLS_CHANGING; nr++) {
            call(run, nr, bits, model);
            look(run, nr, bits, model);
        }
    }

    /** Five hundred calls that may change something, and twelve looks at the end. */
    private static void bareRun(int run) {
        KnownBits bits = new KnownBits();
        Model model = new Model();
        for (int nr = 0; nr < 500; nr++) {
            call(run, nr, bits, model);
        }
        look(run, 500, bits, model);
    }
}
