import java.lang.reflect.Method;
import java.nio.file.Files;
import java.nio.file.Path;

/**
 * Promise 9: agree looks at all kinds and stretches. The engines of the program all find the same,
 * so this is tried on a copy of its text in which one engine can be made to err about one kind and
 * one stretch.
 */
public final class AgreeTests extends Check {
    private static final Path PROGRAM = Path.of("src/main/java/GrammarSuite.java");
    private static final Path COPY = Path.of("build/erring");
    private static final int PLACES = 11;
    private static final String FILL = "private void fill(int engine, int[] table) {";
    private static final String ERRING_FILL = """
            public static int erring = -1;
            public static int cell = 0;
            public static int bits = 0;
            private void fill(int engine, int[] table) {
                fillRightly(engine, table);
                if (engine == erring) {
                    table[cell] ^= bits;
                }
            }
            private void fillRightly(int engine, int[] table) {
            """;

    private static Class<?> copy;

    public static void main(String[] args) throws Exception {
        String text = Files.readString(PROGRAM);
        if (!text.contains(FILL)) {
            System.out.println("left out: the program has no fill that could be made to err");
            return;
        }
        copy = Compiled.from(text.replace(FILL, ERRING_FILL), "GrammarSuite", COPY,
                ClassLoader.getPlatformClassLoader());
        test("9: the same for all kinds and stretches: a difference in one of them is seen",
                () -> eachWord(AgreeTests::differenceIsSeen));
        test("9: for all kinds and stretches: other symbols and places do not matter",
                () -> eachWord(AgreeTests::restDoesNotMatter));
        end();
    }

    private interface Trial {
        void on(Object x, int length, int engine) throws ReflectiveOperationException;
    }

    private static void eachWord(Trial trial) {
        try {
            for (int length : new int[] {0, 1, 5, 10}) {
                for (int engine = 0; engine < 5; engine++) {
                    trial.on(withWord(length), length, engine);
                }
            }
        } catch (ReflectiveOperationException problem) {
            fault(problem.toString());
        }
    }

    private static Object withWord(int length) throws ReflectiveOperationException {
        Object x = copy.getConstructor().newInstance();
        Method write = copy.getMethod("write", int.class);
        for (int k = 0; k < length; k++) {
            write.invoke(x, k % 3);
        }
        return x;
    }

    private static void differenceIsSeen(Object x, int length, int engine)
            throws ReflectiveOperationException {
        int other = (engine + 1) % 5;
        for (int i = 0; i <= length; i++) {
            for (int j = i; j <= length; j++) {
                int kind = (i + j) % 5;
                letErr(engine, i, j, 1 << kind);
                agree(x, engine, other).is(false);
                agree(x, other, engine).is(false);
            }
        }
        for (int kind = 0; kind < 5; kind++) {
            letErr(engine, 0, length, 1 << kind);
            agree(x, engine, other).is(false);
            agree(x, engine, engine).is(true);
            agree(x, other, (other + 1) % 5).is(true);
        }
    }

    private static void restDoesNotMatter(Object x, int length, int engine)
            throws ReflectiveOperationException {
        int other = (engine + 2) % 5;
        for (int i = 0; i < PLACES; i++) {
            for (int j = 0; j < PLACES; j++) {
                boolean isStretch = i <= j && j <= length;
                letErr(engine, i, j, isStretch ? 1 << A | 1 << B | 1 << C : -1);
                agree(x, engine, other).is(true);
            }
        }
    }

    private static void letErr(int engine, int i, int j, int bits)
            throws ReflectiveOperationException {
        copy.getField("erring").setInt(null, engine);
        copy.getField("cell").setInt(null, i * PLACES + j);
        copy.getField("bits").setInt(null, bits);
    }

    private static Answer agree(Object x, int engine, int other)
            throws ReflectiveOperationException {
        Method agree = copy.getMethod("agree", int.class, int.class);
        boolean answer = (boolean) agree.invoke(x, engine, other);
        return new Answer("agree(" + engine + ", " + other + ")", answer ? 1 : 0);
    }
}
