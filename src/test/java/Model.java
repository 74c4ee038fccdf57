import java.util.TreeSet;

/**
 * The document's words over plain sets, written apart from the program: a register holds its
 * numbers themselves, and every pattern is told from them.
 */
final class Model {
    private final TreeSet<Integer>[] registers;

    @SuppressWarnings("unchecked")
    Model() {
        registers = new TreeSet[6];
        for (int r = 0; r < 6; r++) {
            registers[r] = numbers(0, 0);
        }
    }

    static TreeSet<Integer> numbers(int value, int mask) {
        TreeSet<Integer> all = new TreeSet<>();
        for (int n = 0; n < 64; n++) {
            if ((n | mask) == (value | mask)) {
                all.add(n);
            }
        }
        return all;
    }

    /** The bits in which two numbers of the set differ. */
    static int leastMask(TreeSet<Integer> set) {
        int mask = 0;
        for (int n : set) {
            mask |= n ^ set.first();
        }
        return mask;
    }

    static int leastValue(TreeSet<Integer> set) {
        return set.first() & (63 - leastMask(set));
    }

    static TreeSet<Integer> closure(TreeSet<Integer> set) {
        return numbers(leastValue(set), leastMask(set));
    }

    static boolean holds(int x, int how, int y) {
        int sign = Integer.compare(x, y);
        return new boolean[] {sign == 0, sign < 0, sign <= 0, sign != 0, sign >= 0, sign > 0}[how];
    }

    static TreeSet<Integer> results(int kind, TreeSet<Integer> xs, TreeSet<Integer> ys) {
        TreeSet<Integer> results = new TreeSet<>();
        for (int x : xs) {
            for (int y : ys) {
                switch (kind) {
                    case 0 -> results.add(Math.floorMod(x + y, 64));
                    case 1 -> results.add(Math.floorMod(x - y, 64));
                    case 2 -> results.add(x & y);
                    case 3 -> results.add(x | y);
                    case 4 -> results.add(x ^ y);
                    case 5 -> {
                        results.add(x);
                        results.add(y);
                    }
                    default -> {
                        if (ys.contains(x)) {
                            results.add(x);
                        }
                    }
                }
            }
        }
        return results;
    }

    static int shifted(int x, int by) {
        int power = 1;
        for (int k = 0; k < Math.abs(by); k++) {
            power *= 2;
        }
        return by >= 0 ? x * power % 64 : x / power;
    }

    private static boolean bad(int register) {
        return register < 0 || register > 5;
    }

    private int become(int register, TreeSet<Integer> set) {
        if (set.isEmpty()) {
            return -2;
        }
        registers[register] = closure(set);
        return 0;
    }

    int set(int register, int value, int mask) {
        return bad(register) ? -1 : become(register, numbers(value & 63, mask & 63));
    }

    int combine(int dst, int kind, int a, int b) {
        if (bad(dst) || bad(a) || bad(b) || kind < 0 || kind > 6) {
            return -1;
        }
        return become(dst, results(kind, registers[a], registers[b]));
    }

    int shift(int dst, int a, int by) {
        if (bad(dst) || bad(a) || by < -6 || by > 6) {
            return -1;
        }
        TreeSet<Integer> results = new TreeSet<>();
        for (int x : registers[a]) {
            results.add(shifted(x, by));
        }
        return become(dst, results);
    }

    private TreeSet<Integer> between(int register, int low, int high) {
        TreeSet<Integer> kept = new TreeSet<>(registers[register]);
        kept.removeIf(n -> n < low || n > high);
        return kept;
    }

    int narrow(int register, int low, int high) {
        return bad(register) ? -1 : become(register, between(register, low, high));
    }

    int suppose(int a, int how, int b) {
        if (bad(a) || bad(b) || how < 0 || how > 5 || a == b) {
            return -1;
        }
        TreeSet<Integer> xs = new TreeSet<>();
        TreeSet<Integer> ys = new TreeSet<>();
        for (int x : registers[a]) {
            for (int y : registers[b]) {
                if (holds(x, how, y)) {
                    xs.add(x);
                    ys.add(y);
                }
            }
        }
        become(a, xs);
        return become(b, ys);
    }

    int compare(int a, int how, int b) {
        if (bad(a) || bad(b) || how < 0 || how > 5) {
            return -1;
        }
        int held = 0;
        for (int x : registers[a]) {
            for (int y : registers[b]) {
                held += holds(x, how, y) ? 1 : 0;
            }
        }
        int pairs = registers[a].size() * registers[b].size();
        return held == 0 ? 0 : held == pairs ? 1 : 2;
    }

    int value(int register) {
        return bad(register) ? -1 : leastValue(registers[register]);
    }

    int mask(int register) {
        return bad(register) ? -1 : leastMask(registers[register]);
    }

    int least(int register, int from) {
        if (bad(register)) {
            return -1;
        }
        Integer found = registers[register].ceiling(from);
        return found == null ? 64 : found;
    }

    int count(int register, int low, int high) {
        return bad(register) ? -1 : between(register, low, high).size();
    }
}
