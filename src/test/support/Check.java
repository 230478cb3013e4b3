import java.util.stream.IntStream;

/** What the boundary tests share: names for numbers, and the count of what is not as due. */
abstract class Check {
    static final int BAD = -1;
    static final int FULL = -2;
    static final int NONE = -3;
    static final int A = 5;
    static final int B = 6;
    static final int C = 7;
    static final int MIN = Integer.MIN_VALUE;
    static final int MAX = Integer.MAX_VALUE;
    static final String TEN = "abcabbccab";
    static final int[] NO_KINDS = outside(4);
    static final int[] NO_ENGINES = outside(4);

    private static int wrong = 0;
    private static int tests = 0;
    private static String running = "";

    /** Runs a test that bears the promise's number and the words of the document it is about. */
    static void test(String sentence, Runnable body) {
        running = sentence;
        tests++;
        body.run();
    }

    static void fault(String what) {
        wrong++;
        System.out.println(running + ": " + what);
    }

    static void end() {
        System.out.println(tests + " tests, " + wrong + " faults");
        if (wrong != 0) {
            System.exit(1);
        }
    }

    /** The first numbers on both sides of 0 .. high, some with the same low bits, and the last. */
    static int[] outside(int high) {
        IntStream beside = IntStream.of(-2, -1, high + 1, high + 2, MIN, MIN + 1, MAX - 1, MAX);
        IntStream sameLowBits = IntStream.of(8, 16, 32, 256, 65536, 1 << 24)
                .flatMap(step -> IntStream.of(-step, step, high - step, high + step))
                .filter(n -> n < 0 || n > high);
        return IntStream.concat(beside, sameLowBits).distinct().toArray();
    }

    /** What a call answered, a boolean as 1 or 0. */
    record Answer(String call, int value) {
        void is(int want) {
            if (value != want) {
                fault(call + " answered " + value + ", due is " + want);
            }
        }

        void is(boolean want) {
            is(want ? 1 : 0);
        }
    }
}
