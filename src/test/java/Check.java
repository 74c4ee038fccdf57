/** Counts and prints the answers that are not the ones due. */
final class Check {
    private static final int MOST_PRINTED = 50;
    private static int wrong = 0;
    private static String sentence = "";

    private Check() {
    }

    /** The sentence of the document that the answers from here on are held against. */
    static void sentence(String words) {
        sentence = words + ": ";
    }

    static void due(String call, int got, int want) {
        if (got != want) {
            wrong++;
            if (wrong <= MOST_PRINTED) {
                System.out.println(sentence + call + " answered " + got + ", due is " + want);
            }
        }
    }

    /** The parts are joined only if the answer is wrong: joining would take most of a long test. */
    static void due(int got, int want, Object... parts) {
        if (got != want) {
            StringBuilder call = new StringBuilder();
            for (Object part : parts) {
                call.append(part).append(' ');
            }
            due(call.toString(), got, want);
        }
    }

    static void pattern(String when, KnownBits bits, int register, int value, int mask) {
        due(when + ": value(" + register + ")", bits.value(register), value);
        due(when + ": mask(" + register + ")", bits.mask(register), mask);
    }

    static void end() {
        if (wrong != 0) {
            System.out.println(wrong + " answers are not as due");
            System.exit(1);
        }
        System.out.println("all answers are as due");
    }
}
