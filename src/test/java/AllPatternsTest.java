import java.util.ArrayList;
import java.util.List;
import java.util.TreeSet;

/**
 * Every pattern through every call on one register, and every pair of patterns through every call
 * on two, against results worked out here from the document's definitions.
 */
public final class AllPatternsTest {
    private static final List<int[]> PATTERNS = new ArrayList<>();
    private static final int[][] NUMBERS = new int[729][];

    public static void main(String[] args) {
        for (int mask = 0; mask < 64; mask++) {
            for (int value = 0; value < 64; value++) {
                if ((value & mask) == 0) {
                    NUMBERS[PATTERNS.size()] = numbers(value, mask);
                    PATTERNS.add(new int[] {value, mask});
                }
            }
        }
        Check.due("patterns", PATTERNS.size(), 729);
        setEveryValueAndMask();
        for (int p = 0; p < 729; p++) {
            shifts(p);
            ranges(p);
            for (int q = 0; q < 729; q++) {
                combinations(p, q);
                comparisons(p, q);
            }
        }
        Check.end();
    }

    private static int[] numbers(int value, int mask) {
        TreeSet<Integer> set = Model.numbers(value, mask);
        return set.stream().mapToInt(Integer::intValue).toArray();
    }

    private static KnownBits holding(int p, int q) {
        KnownBits bits = new KnownBits();
        bits.set(0, PATTERNS.get(p)[0], PATTERNS.get(p)[1]);
        bits.set(1, PATTERNS.get(q)[0], PATTERNS.get(q)[1]);
        return bits;
    }

    private static void setEveryValueAndMask() {
        for (int value = -64; value < 128; value++) {
            for (int mask = -64; mask < 128; mask++) {
                KnownBits bits = new KnownBits();
                Check.due(bits.set(3, value, mask), 0, "set", value, mask);
                int wantMask = Math.floorMod(mask, 64);
                int wantValue = Math.floorMod(value, 64) & (63 - wantMask);
                Check.due(bits.mask(3), wantMask, "mask after set", value, mask);
                Check.due(bits.value(3), wantValue, "value after set", value, mask);
            }
        }
    }

    private static void shifts(int p) {
        for (int by = -6; by <= 6; by++) {
            TreeSet<Integer> results = new TreeSet<>();
            for (int x : NUMBERS[p]) {
                results.add(Model.shifted(x, by));
            }
            KnownBits bits = holding(p, p);
            Check.due(bits.shift(2, 0, by), 0, "shift", p, by);
            Check.due(bits.value(2), Model.leastValue(results), "value after shift", p, by);
            Check.due(bits.mask(2), Model.leastMask(results), "mask after shift", p, by);
        }
    }

    private static void ranges(int p) {
        for (int low = -1; low <= 65; low++) {
            KnownBits looked = holding(p, p);
            TreeSet<Integer> from = Model.numbers(PATTERNS.get(p)[0], PATTERNS.get(p)[1]);
            Integer ceiling = from.ceiling(low);
            Check.due(looked.least(0, low), ceiling == null ? 64 : ceiling, "least", p, low);
            for (int high = -1; high <= 65; high++) {
                Range range = new Range(p, low, high);
                Check.due(looked.count(0, low, high), range.count, "count", p, low, high);
                KnownBits bits = holding(p, p);
                Check.due(bits.narrow(0, low, high), range.count == 0 ? -2 : 0, "narrow", p, low, high);
                Check.due(bits.value(0), range.value, "value after narrow", p, low, high);
                Check.due(bits.mask(0), range.mask, "mask after narrow", p, low, high);
            }
        }
    }

    /** What is due of a pattern between two bounds; its own pattern if nothing is left. */
    private static final class Range {
        int count = 0;
        int value;
        int mask = 0;

        Range(int p, int low, int high) {
            int first = -1;
            for (int n : NUMBERS[p]) {
                if (low <= n && n <= high) {
                    first = count == 0 ? n : first;
                    mask |= n ^ first;
                    count++;
                }
            }
            value = first & ~mask;
            if (count == 0) {
                value = PATTERNS.get(p)[0];
                mask = PATTERNS.get(p)[1];
            }
        }
    }

    /** Gathers a least pattern without keeping the set. */
    private static final class Gathered {
        int first = -1;
        int mask = 0;

        void add(int n) {
            first = first < 0 ? n : first;
            mask |= n ^ first;
        }

        boolean isEmpty() {
            return first < 0;
        }

        int value() {
            return first & ~mask;
        }
    }

    private static Gathered[] allResults(int p, int q) {
        Gathered[] due = new Gathered[7];
        for (int kind = 0; kind < 7; kind++) {
            due[kind] = new Gathered();
        }
        for (int x : NUMBERS[p]) {
            for (int y : NUMBERS[q]) {
                due[0].add((x + y) % 64);
                due[1].add((x + 64 - y) % 64);
                due[2].add(x & y);
                due[3].add(x | y);
                due[4].add(x ^ y);
                due[5].add(x);
                due[5].add(y);
                if (x == y) {
                    due[6].add(x);
                }
            }
        }
        return due;
    }

    private static void combinations(int p, int q) {
        Gathered[] due = allResults(p, q);
        KnownBits bits = holding(p, q);
        for (int kind = 0; kind < 7; kind++) {
            bits.set(2, 37, 8);
            boolean empty = due[kind].isEmpty();
            Check.due(bits.combine(2, kind, 0, 1), empty ? -2 : 0, "combine", kind, p, q);
            Check.due(bits.value(2), empty ? 37 : due[kind].value(), "value after combine", kind, p, q);
            Check.due(bits.mask(2), empty ? 8 : due[kind].mask, "mask after combine", kind, p, q);
        }
    }

    private static void comparisons(int p, int q) {
        for (int how = 0; how < 6; how++) {
            Gathered xs = new Gathered();
            Gathered ys = new Gathered();
            int held = 0;
            for (int x : NUMBERS[p]) {
                for (int y : NUMBERS[q]) {
                    if (holds(x, how, y)) {
                        xs.add(x);
                        ys.add(y);
                        held++;
                    }
                }
            }
            int pairs = NUMBERS[p].length * NUMBERS[q].length;
            KnownBits bits = holding(p, q);
            Check.due(bits.compare(0, how, 1), held == 0 ? 0 : held == pairs ? 1 : 2, "compare", how, p, q);
            Check.due(bits.suppose(0, how, 1), held == 0 ? -2 : 0, "suppose", how, p, q);
            boolean none = held == 0;
            Check.due(bits.value(0), none ? PATTERNS.get(p)[0] : xs.value(), "value of a", how, p, q);
            Check.due(bits.mask(0), none ? PATTERNS.get(p)[1] : xs.mask, "mask of a", how, p, q);
            Check.due(bits.value(1), none ? PATTERNS.get(q)[0] : ys.value(), "value of b", how, p, q);
            Check.due(bits.mask(1), none ? PATTERNS.get(q)[1] : ys.mask, "mask of b", how, p, q);
        }
    }

    private static boolean holds(int x, int how, int y) {
        return switch (how) {
            case 0 -> x == y;
            case 1 -> x < y;
            case 2 -> !(y < x);
            case 3 -> x < y || y < x;
            case 4 -> !(x < y);
            default -> y < x;
        };
    }
}
