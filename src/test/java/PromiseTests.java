/** Each promise of the document by hand: ordinary inputs, the edges it names, wrong inputs. */
public final class PromiseTests {
    private static final int BAD = -1;
    private static final int FULL = -2;
    private static final int NONE = -3;
    private static final int A = 5;
    private static final int B = 6;
    private static final int C = 7;
    private static final int MIN = Integer.MIN_VALUE;
    private static final int MAX = Integer.MAX_VALUE;
    private static final int[] NO_KINDS = {-1, 5, 6, 8, 32, 256, MIN, MAX};
    private static final int[] NO_ENGINES = {-1, 5, 6, 32, 256, MIN, MAX};

    private static int wrong = 0;

    public static void main(String[] args) {
        constants();
        newObject();
        rule();
        ruleReusesNumbers();
        drop();
        rules();
        write();
        cut();
        makes();
        stretch();
        stretchOfEveryShape();
        agree();
        longest();
        parts();
        empty();
        able();
        first();
        shortest();
        count();
        orderAndLimits();
        nothingIsKept();
        System.out.println(wrong == 0 ? "all promises hold" : wrong + " answers are not as due");
        if (wrong != 0) {
            System.exit(1);
        }
    }

    private static void due(String call, int got, int want) {
        if (got != want) {
            wrong++;
            System.out.println(call + " answered " + got + ", due is " + want);
        }
    }

    private static void due(String call, boolean got, boolean want) {
        due(call, got ? 1 : 0, want ? 1 : 0);
    }

    private static void add(GrammarSuite x, int kind, int... symbols) {
        int packed = 0;
        for (int d = 0; d < symbols.length; d++) {
            packed += symbols[d] << 3 * d;
        }
        if (x.rule(kind, symbols.length, packed) < 0) {
            wrong++;
            System.out.println("a rule of a test was refused");
        }
    }

    private static void spell(GrammarSuite x, String letters) {
        x.cut(10);
        for (int i = 0; i < letters.length(); i++) {
            due("write in spelling " + letters, x.write(letters.charAt(i) - 'a'), i + 1);
        }
    }

    private static void dueInAllEngines(GrammarSuite x, int kind, String word, boolean want) {
        spell(x, word);
        for (int engine = 0; engine < 5; engine++) {
            due("makes(" + engine + ", " + kind + ") of '" + word + "'", x.makes(engine, kind), want);
        }
    }

    private static void constants() {
        due("BAD", GrammarSuite.BAD, BAD);
        due("FULL", GrammarSuite.FULL, FULL);
        due("NONE", GrammarSuite.NONE, NONE);
    }

    // Promise 1
    private static void newObject() {
        GrammarSuite x = new GrammarSuite();
        due("1: rules()", x.rules(), 0);
        due("1: cut(0)", x.cut(0), 0);
        due("1: empty()", x.empty(), 0);
        due("1: able()", x.able(), 0);
        for (int kind = 0; kind < 5; kind++) {
            due("1: longest", x.longest(kind), NONE);
            due("1: parts", x.parts(kind), 0);
            due("1: first", x.first(kind), 0);
            due("1: shortest", x.shortest(kind), NONE);
            for (int n = 0; n <= 4; n++) {
                due("1: count", x.count(kind, n), 0);
            }
            for (int engine = 0; engine < 5; engine++) {
                due("1: makes", x.makes(engine, kind), false);
                due("1: stretch", x.stretch(engine, kind, 0, 0), false);
            }
        }
        GrammarSuite other = new GrammarSuite();
        add(other, 0);
        other.write(0);
        due("1: rules() beside another object", x.rules(), 0);
        due("1: write beside another object", x.write(1), 1);
    }

    // Promise 2
    private static void rule() {
        GrammarSuite x = new GrammarSuite();
        int[][] bad = {
            {-1, 0, 0}, {5, 0, 0}, {MIN, 0, 0}, {MAX, 0, 0},
            {0, -1, 0}, {0, 4, 0}, {0, MIN, 0}, {0, MAX, 0}, {0, 32, 0}, {0, 11, 0},
            {0, 0, 1}, {0, 0, -1}, {0, 1, 8}, {0, 1, -1}, {0, 2, 64}, {0, 2, -1},
            {0, 3, 512}, {0, 3, -1}, {0, 3, MIN}, {0, 3, MAX}, {0, 0, MIN}, {0, 0, MAX},
        };
        for (int[] b : bad) {
            due("2: wrong rule", x.rule(b[0], b[1], b[2]), BAD);
        }
        due("2: rules() after wrong ones", x.rules(), 0);
        due("2: rule(0, 0, 0)", x.rule(0, 0, 0), 0);
        due("2: rule(4, 1, 7)", x.rule(4, 1, 7), 1);
        due("2: rule(4, 2, 63)", x.rule(4, 2, 63), 2);
        due("2: rule(4, 3, 511)", x.rule(4, 3, 511), 3);
        due("2: the same rule again", x.rule(4, 3, 511), 4);
        for (int k = 5; k < 16; k++) {
            due("2: rule", x.rule(1, 1, 0), k);
        }
        due("2: a seventeenth rule", x.rule(1, 1, 0), FULL);
        for (int[] b : bad) {
            due("2: BAD comes before FULL", x.rule(b[0], b[1], b[2]), BAD);
        }
        due("2: rules() when full", x.rules(), 65535);

        GrammarSuite y = new GrammarSuite();
        due("2: the first symbol is the lowest", y.rule(0, 3, A + 8 * B + 64 * C), 0);
        dueInAllEngines(y, 0, "abc", true);
        dueInAllEngines(y, 0, "cba", false);
    }

    private static void ruleReusesNumbers() {
        GrammarSuite x = new GrammarSuite();
        for (int k = 0; k < 16; k++) {
            x.rule(0, 1, A);
        }
        x.drop(9);
        x.drop(3);
        x.drop(15);
        due("2: the least free number", x.rule(1, 1, B), 3);
        due("2: the next free number", x.rule(1, 1, C), 9);
        due("2: the last free number", x.rule(1, 0, 0), 15);
        due("2: full again", x.rule(1, 0, 0), FULL);
        due("2: the new rules count", x.count(1, 1), 2);
        due("2: and the empty one", x.empty(), 2);
    }

    // Promise 3
    private static void drop() {
        GrammarSuite x = new GrammarSuite();
        for (int k : new int[] {-1, 0, 15, 16, 31, 32, 33, MIN, MAX}) {
            due("3: drop of none", x.drop(k), false);
        }
        for (int k = 0; k < 16; k++) {
            x.rule(0, 1, A);
        }
        for (int k : new int[] {-1, 16, 31, 32, 47, MIN, MAX, -32}) {
            due("3: drop of no number", x.drop(k), false);
        }
        due("3: nothing is dropped", x.rules(), 65535);
        due("3: drop(15)", x.drop(15), true);
        due("3: drop(15) again", x.drop(15), false);
        due("3: drop(0)", x.drop(0), true);
        due("3: rules()", x.rules(), 65535 - 32768 - 1);

        GrammarSuite y = new GrammarSuite();
        add(y, 0, A);
        add(y, 0, B);
        y.drop(0);
        dueInAllEngines(y, 0, "a", false);
        dueInAllEngines(y, 0, "b", true);
    }

    // Promise 4
    private static void rules() {
        GrammarSuite x = new GrammarSuite();
        int all = 0;
        for (int k = 0; k < 16; k++) {
            x.rule(k % 5, 0, 0);
            all |= 1 << k;
            due("4: rules()", x.rules(), all);
        }
        for (int k = 0; k < 16; k += 2) {
            x.drop(k);
            all &= ~(1 << k);
            due("4: rules() after drop", x.rules(), all);
        }
    }

    // Promise 5
    private static void write() {
        GrammarSuite x = new GrammarSuite();
        for (int letter : new int[] {-1, 3, 5, MIN, MAX}) {
            due("5: no letter", x.write(letter), BAD);
        }
        for (int k = 1; k <= 10; k++) {
            due("5: write", x.write(k % 3), k);
        }
        due("5: an eleventh letter", x.write(0), FULL);
        due("5: the length stays", x.cut(0), 10);
        x.cut(1);
        due("5: there is a place again", x.write(2), 10);

        GrammarSuite y = new GrammarSuite();
        add(y, 0, A, B, C);
        y.write(0);
        y.write(1);
        due("5: not yet", y.makes(0, 0), false);
        y.write(2);
        due("5: appended at the end", y.makes(0, 0), true);
    }

    // Promise 6
    private static void cut() {
        GrammarSuite x = new GrammarSuite();
        spell(x, "abcabc");
        for (int n : new int[] {-1, 11, MIN, MAX}) {
            due("6: wrong cut", x.cut(n), BAD);
        }
        due("6: cut(0)", x.cut(0), 6);
        due("6: cut(1)", x.cut(1), 5);
        due("6: cut(5)", x.cut(5), 0);
        due("6: cut of the empty word", x.cut(3), 0);
        spell(x, "abc");
        due("6: cut of more than there is", x.cut(4), 0);
        spell(x, "abcabcabca");
        due("6: cut(10)", x.cut(10), 0);
        spell(x, "abcabcabca");
        due("6: cut(9)", x.cut(9), 1);
        add(x, 0, A);
        due("6: the last letters go", x.makes(1, 0), true);
        x.write(1);
        add(x, 1, A, B);
        due("6: the new letter stands behind", x.makes(2, 1), true);
    }

    // Promise 7
    private static void makes() {
        GrammarSuite x = new GrammarSuite();
        add(x, 0, A, 0, B);
        add(x, 0);
        add(x, 4, 4, 4);
        add(x, 4, C);
        for (String word : new String[] {"", "ab", "aabb", "aaabbb", "aaaabbbb", "aaaaabbbbb"}) {
            dueInAllEngines(x, 0, word, true);
        }
        for (String word : new String[] {"a", "b", "ba", "aab", "abb", "abab", "aaaabbbbbb", "acb"}) {
            dueInAllEngines(x, 0, word, false);
        }
        dueInAllEngines(x, 4, "", false);
        dueInAllEngines(x, 4, "c", true);
        dueInAllEngines(x, 4, "cccccccccc", true);
        dueInAllEngines(x, 4, "ccccccccca", false);
        dueInAllEngines(x, 1, "ab", false);
        for (int kind = 0; kind < 5; kind++) {
            GrammarSuite y = new GrammarSuite();
            add(y, kind);
            add(y, kind, A, kind, A);
            spell(y, "aa");
            for (int engine : NO_ENGINES) {
                due("7: no such engine", y.makes(engine, kind), false);
            }
            for (int engine = 0; engine < 5; engine++) {
                due("7: such a kind", y.makes(engine, kind), true);
                for (int none : NO_KINDS) {
                    due("7: no such kind", y.makes(engine, none), false);
                }
            }
        }
        // The letters 0 .. 2 are symbols 5 .. 7, but no kinds, though they make the word.
        spell(x, "a");
        for (int engine = 0; engine < 5; engine++) {
            due("7: a letter is no kind", x.makes(engine, A), false);
        }
    }

    // Promise 8
    private static void stretch() {
        GrammarSuite x = new GrammarSuite();
        add(x, 0, A, 0, B);
        add(x, 0);
        spell(x, "aabbab");
        String made = " 13 04 46 ";
        for (int engine = 0; engine < 5; engine++) {
            for (int i = 0; i <= 6; i++) {
                for (int j = 0; j <= 6; j++) {
                    boolean want = i == j || made.contains(" " + i + j + " ");
                    due("8: stretch(" + engine + ", 0, " + i + ", " + j + ")",
                            x.stretch(engine, 0, i, j), want);
                    due("8: stretch of another kind", x.stretch(engine, 1, i, j), false);
                }
            }
        }
        GrammarSuite y = new GrammarSuite();
        add(y, 2);
        add(y, 2, A, 2);
        spell(y, "aaa");
        int[][] none = {
            {-1, 0}, {-1, -1}, {0, -1}, {1, 0}, {3, 2}, {0, 4}, {4, 4}, {3, 4}, {11, 11}, {10, 10},
            {MIN, 0}, {0, MAX}, {MIN, MAX}, {MAX, MAX}, {MIN, MIN}, {MAX, MIN}, {-1, 11}, {0, 10},
        };
        for (int engine = 0; engine < 5; engine++) {
            for (int[] s : none) {
                due("8: no such stretch", y.stretch(engine, 2, s[0], s[1]), false);
            }
            due("8: the last empty stretch", y.stretch(engine, 2, 3, 3), true);
            due("8: the whole word", y.stretch(engine, 2, 0, 3), true);
            for (int kind : NO_KINDS) {
                due("8: no such kind", y.stretch(engine, kind, 0, 3), false);
            }
        }
        for (int engine : NO_ENGINES) {
            due("8: no such engine", y.stretch(engine, 2, 0, 3), false);
        }
        y.cut(2);
        for (int engine = 0; engine < 5; engine++) {
            due("8: cut letters make no stretch", y.stretch(engine, 2, 0, 2), false);
            due("8: what is left", y.stretch(engine, 2, 0, 1), true);
        }
    }

    // The hard cases of the ways: circles of single symbols, empty neighbours, left and right
    // recursion, each with words that are made and words that are not.
    private static void stretchOfEveryShape() {
        GrammarSuite circle = new GrammarSuite();
        add(circle, 4, 3);
        add(circle, 3, 2);
        add(circle, 2, 1);
        add(circle, 1, 0);
        add(circle, 0, 4);
        add(circle, 0, B);
        for (int kind = 0; kind < 5; kind++) {
            dueInAllEngines(circle, kind, "b", true);
            dueInAllEngines(circle, kind, "", false);
            dueInAllEngines(circle, kind, "bb", false);
        }
        GrammarSuite hidden = new GrammarSuite();
        add(hidden, 0, 1, 0, 1);
        add(hidden, 0, 1, C, 1);
        add(hidden, 1, 2, 2);
        add(hidden, 1, A);
        add(hidden, 2);
        dueInAllEngines(hidden, 0, "c", true);
        dueInAllEngines(hidden, 0, "aaaacaaaaa", true);
        dueInAllEngines(hidden, 0, "aaaaaaaaac", true);
        dueInAllEngines(hidden, 0, "aaaaaaaaaa", false);
        dueInAllEngines(hidden, 0, "aacaacaaaa", false);
        dueInAllEngines(hidden, 0, "", false);
        GrammarSuite left = new GrammarSuite();
        add(left, 3, 3, A);
        add(left, 3, B);
        dueInAllEngines(left, 3, "baaaaaaaaa", true);
        dueInAllEngines(left, 3, "aaaaaaaaab", false);
        GrammarSuite right = new GrammarSuite();
        add(right, 3, A, 3);
        add(right, 3, B);
        dueInAllEngines(right, 3, "aaaaaaaaab", true);
        dueInAllEngines(right, 3, "baaaaaaaaa", false);
        GrammarSuite lateEmpty = new GrammarSuite();
        add(lateEmpty, 0, 1, 1, 1);
        add(lateEmpty, 1, 2, 2, 2);
        add(lateEmpty, 2, 3, 3, 3);
        add(lateEmpty, 3, 4, 4, 4);
        add(lateEmpty, 4);
        add(lateEmpty, 4, A);
        dueInAllEngines(lateEmpty, 0, "", true);
        dueInAllEngines(lateEmpty, 0, "aaaaaaaaaa", true);
        dueInAllEngines(lateEmpty, 0, "aaaaabaaaa", false);
        dueInAllEngines(lateEmpty, 3, "aaa", true);
        dueInAllEngines(lateEmpty, 3, "aaaa", false);
    }

    // Promise 9
    private static void agree() {
        GrammarSuite none = new GrammarSuite();
        dueAgreement(none);
        GrammarSuite x = new GrammarSuite();
        add(x, 0, 0, 0, 0);
        add(x, 0, 1, 2);
        add(x, 1);
        add(x, 1, A, 2, B);
        add(x, 2, 1, C);
        add(x, 2, 3);
        add(x, 3, 2);
        add(x, 3, 4, A);
        dueAgreement(x);
        spell(x, "abcacbacab");
        dueAgreement(x);
        x.drop(2);
        dueAgreement(x);
        x.cut(7);
        dueAgreement(x);
    }

    private static void dueAgreement(GrammarSuite x) {
        for (int engine = 0; engine < 5; engine++) {
            for (int other = 0; other < 5; other++) {
                due("9: agree(" + engine + ", " + other + ")", x.agree(engine, other), true);
            }
            for (int none : NO_ENGINES) {
                due("9: no such other", x.agree(engine, none), false);
                due("9: no such engine", x.agree(none, engine), false);
            }
        }
        due("9: twice the same none", x.agree(5, 5), false);
        due("9: two of none", x.agree(-1, 5), false);
    }

    // Promise 10
    private static void longest() {
        GrammarSuite x = new GrammarSuite();
        add(x, 0, A, 0);
        add(x, 0, A);
        add(x, 1);
        add(x, 2, B, 1);
        add(x, 3, 3);
        add(x, 4, C, C);
        due("10: the empty word, not made", x.longest(0), NONE);
        due("10: the empty word, made", x.longest(1), 0);
        spell(x, "aabaaabaac");
        due("10: in the middle", x.longest(0), 3);
        due("10: only the empty stretch", x.longest(1), 0);
        due("10: one letter", x.longest(2), 1);
        due("10: no stretch at all", x.longest(3), NONE);
        due("10: none of this word", x.longest(4), NONE);
        spell(x, "aaaaaaaaaa");
        due("10: the whole word", x.longest(0), 10);
        spell(x, "bbbbbbbbba");
        due("10: at the end", x.longest(0), 1);
        for (int kind : NO_KINDS) {
            due("10: no such kind", x.longest(kind), BAD);
        }
    }

    // Promise 11
    private static void parts() {
        GrammarSuite x = new GrammarSuite();
        add(x, 0, A);
        add(x, 0, A, A, A);
        add(x, 0, B, A);
        add(x, 0, A, A, B);
        add(x, 1);
        add(x, 2, 2, 2);
        add(x, 2, A);
        add(x, 2, B);
        add(x, 3);
        add(x, 3, A, B);
        for (int kind = 0; kind < 5; kind++) {
            due("11: the empty word", x.parts(kind), 0);
        }
        spell(x, "aaaaa");
        due("11: three, one, one", x.parts(0), 3);
        due("11: empty stretches do not count", x.parts(1), NONE);
        due("11: the whole word", x.parts(2), 1);
        due("11: no rules", x.parts(4), NONE);
        spell(x, "aaaba");
        due("11: aaa and ba", x.parts(0), 2);
        spell(x, "aaabaab");
        due("11: the longest first leads nowhere, a aab aab does", x.parts(0), 3);
        spell(x, "abb");
        due("11: it can't be done", x.parts(0), NONE);
        spell(x, "ababababab");
        due("11: five pairs", x.parts(3), 5);
        spell(x, "ababababaa");
        due("11: the end is left over", x.parts(3), NONE);
        spell(x, "cab");
        due("11: the beginning is left over", x.parts(3), NONE);
        spell(x, "aaaaaaaaaa");
        due("11: three threes and one", x.parts(0), 4);
        for (int kind : NO_KINDS) {
            due("11: no such kind", x.parts(kind), BAD);
        }
        x.cut(10);
        for (int kind : NO_KINDS) {
            due("11: no such kind, empty word", x.parts(kind), BAD);
        }
    }

    // Promise 12
    private static void empty() {
        GrammarSuite x = new GrammarSuite();
        add(x, 0, 1, 2, 3);
        add(x, 1, 2, 2);
        add(x, 2, 3);
        add(x, 3, 4, 4, 4);
        due("12: no empty rule", x.empty(), 0);
        add(x, 4);
        due("12: from the last to the first", x.empty(), 31);
        add(x, 4, A);
        due("12: a letter changes nothing", x.empty(), 31);
        x.drop(4);
        due("12: the empty rule is gone", x.empty(), 0);
        GrammarSuite y = new GrammarSuite();
        add(y, 0);
        add(y, 1, 0, A);
        add(y, 2, 2, 0);
        add(y, 3, 0, 0, 0);
        due("12: a letter or itself stands in the way", y.empty(), 9);
        spell(y, "aaa");
        due("12: the word does not matter", y.empty(), 9);
    }

    // Promise 13
    private static void able() {
        GrammarSuite x = new GrammarSuite();
        add(x, 0, 1, A);
        add(x, 1, 2, B);
        add(x, 2, 3, C);
        add(x, 3, 4, A);
        add(x, 4, 4);
        due("13: all wait for 4", x.able(), 0);
        add(x, 4, B);
        due("13: now all can", x.able(), 31);
        x.drop(2);
        due("13: without the one in the middle", x.able(), 24);
        GrammarSuite y = new GrammarSuite();
        add(y, 0);
        add(y, 1, A);
        add(y, 2, A, 3);
        add(y, 3, 2);
        due("13: empty list and letter", y.able(), 3);
        spell(y, "ccc");
        due("13: the word does not matter", y.able(), 3);
    }

    // Promise 14
    private static void first() {
        GrammarSuite x = new GrammarSuite();
        add(x, 0, 1, 2, C);
        add(x, 1);
        add(x, 1, A);
        add(x, 2, B);
        add(x, 3, C, 4);
        add(x, 4, 4, A);
        due("14: behind an empty one", x.first(0), 3);
        due("14: a letter and the empty list", x.first(1), 1);
        due("14: one letter", x.first(2), 2);
        due("14: a rule that makes nothing begins with nothing", x.first(3), 0);
        due("14: left recursion without an end", x.first(4), 0);
        add(x, 2);
        due("14: behind two empty ones", x.first(0), 7);
        GrammarSuite y = new GrammarSuite();
        add(y, 0, 1);
        add(y, 1, 2);
        add(y, 2, 3);
        add(y, 3, 4);
        add(y, 4, C);
        add(y, 4, 0, A);
        for (int kind = 0; kind < 5; kind++) {
            due("14: through all kinds", y.first(kind), 4);
        }
        GrammarSuite z = new GrammarSuite();
        add(z, 0);
        add(z, 1, 0, 0, 0);
        add(z, 2, 2, A);
        add(z, 2);
        due("14: only the empty list", z.first(0), 0);
        due("14: put together from empty ones", z.first(1), 0);
        due("14: itself, being empty, and then a", z.first(2), 1);
        for (int kind : NO_KINDS) {
            due("14: no such kind", z.first(kind), BAD);
        }
    }

    // Promise 15
    private static void shortest() {
        GrammarSuite x = new GrammarSuite();
        add(x, 0, 1, 1, 1);
        add(x, 1, 2, 2, 2);
        add(x, 2, 3, 3, 3);
        add(x, 3, 4, 4, 4);
        due("15: none yet", x.shortest(0), NONE);
        add(x, 4, A, A, A);
        due("15: the greatest of all", x.shortest(0), 243);
        due("15: of 4", x.shortest(4), 3);
        add(x, 2, 4, A);
        due("15: a shorter way", x.shortest(0), 36);
        add(x, 4);
        due("15: empty in the end", x.shortest(0), 0);
        GrammarSuite y = new GrammarSuite();
        add(y, 0, 0, A);
        add(y, 1, A, B, C);
        add(y, 1, 2, C);
        add(y, 2, 1);
        add(y, 2, A);
        due("15: never ends", y.shortest(0), NONE);
        due("15: two instead of three", y.shortest(1), 2);
        due("15: one", y.shortest(2), 1);
        due("15: no rules", y.shortest(3), NONE);
        for (int kind : NO_KINDS) {
            due("15: no such kind", y.shortest(kind), BAD);
        }
    }

    // Promise 16
    private static void count() {
        GrammarSuite x = new GrammarSuite();
        add(x, 0);
        add(x, 0, 1, 0);
        add(x, 1, A);
        add(x, 1, B);
        add(x, 1, C);
        add(x, 2, A, 2, B);
        add(x, 2, 2, 2);
        add(x, 2);
        add(x, 3, A, 3);
        add(x, 3, 3, B);
        add(x, 3, C);
        int[] all = {1, 3, 9, 27, 81};
        int[] nested = {1, 0, 1, 0, 2};
        int[] around = {0, 1, 2, 3, 4};
        for (int n = 0; n <= 4; n++) {
            due("16: all lists of " + n, x.count(0, n), all[n]);
            due("16: nested lists of " + n, x.count(2, n), nested[n]);
            due("16: around c, of " + n, x.count(3, n), around[n]);
            due("16: no rules, of " + n, x.count(4, n), 0);
            for (int kind : NO_KINDS) {
                due("16: no such kind", x.count(kind, n), BAD);
            }
        }
        for (int n : new int[] {-1, 5, 10, MIN, MAX}) {
            due("16: no such length", x.count(0, n), BAD);
        }
        due("16: both wrong", x.count(5, 5), BAD);
        add(x, 1, A);
        due("16: different lists count once", x.count(1, 1), 3);
        spell(x, "cab");
        due("16: the word does not matter", x.count(0, 4), 81);
        add(x, 4, 1, 1);
        due("16: count leaves the word alone", x.parts(4), NONE);
        add(x, 4, C, A, B);
        due("16: as it was written", x.parts(4), 1);
    }

    // Promise 17
    private static void orderAndLimits() {
        GrammarSuite x = new GrammarSuite();
        add(x, 0, A, B, C);
        spell(x, "abcabcabca");
        due("17: BAD before FULL", x.write(3), BAD);
        due("17: BAD before FULL", x.write(-1), BAD);
        due("17: FULL", x.write(2), FULL);
        due("17: the length stays", x.cut(0), 10);
        due("17: the last letter stays", x.stretch(0, 0, 7, 10), false);
        due("17: the letters stay", x.stretch(0, 0, 6, 9), true);
        due("17: wrong cut", x.cut(11), BAD);
        due("17: wrong cut", x.cut(-1), BAD);
        due("17: cut changes nothing then", x.cut(0), 10);
        x.cut(1);
        due("17: wrong letter", x.write(3), BAD);
        due("17: write changes nothing then", x.parts(0), 3);
        for (int k = 1; k < 16; k++) {
            x.rule(1, 1, B);
        }
        due("17: FULL", x.rule(0, 0, 0), FULL);
        due("17: rule changes nothing then", x.empty(), 0);
        due("17: BAD", x.rule(0, 0, 1), BAD);
        due("17: rule changes nothing then", x.rules(), 65535);
        due("17: no rule is changed", x.count(0, 3), 1);
        due("17: no rule is changed", x.count(1, 1), 1);
        x.cut(10);
        due("17: no such kind, though nothing is made", x.longest(5), BAD);
        due("17: no such kind, though the word is empty", x.parts(5), BAD);
        due("17: no such kind, though there are none", x.shortest(5), BAD);
    }

    // Answers of one call must not shine through in the next one.
    private static void nothingIsKept() {
        GrammarSuite x = new GrammarSuite();
        add(x, 0, A, 0);
        add(x, 0);
        for (int engine = 0; engine < 5; engine++) {
            spell(x, "aaaaaaaaaa");
            due("kept: all of a", x.makes(engine, 0), true);
            spell(x, "aaaaabaaaa");
            due("kept: b in the middle", x.makes(engine, 0), false);
            due("kept: up to b", x.stretch(engine, 0, 0, 5), true);
            due("kept: with b", x.stretch(engine, 0, 0, 6), false);
            x.drop(1);
            due("kept: the end is gone", x.stretch(engine, 0, 0, 5), false);
            due("kept: its number is free", x.rule(0, 0, 0), 1);
            due("kept: it is back", x.stretch(engine, 0, 6, 10), true);
        }
    }
}
