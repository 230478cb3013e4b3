/** An object of the program that counts its calls and answers with their text. */
final class Suite extends Check {
    static final int MOST_CALLS = 512;

    private final GrammarSuite suite = new GrammarSuite();
    private int calls = 0;

    static Suite withWord(String letters) {
        Suite x = new Suite();
        x.spell(letters);
        return x;
    }

    /** Kind 0 makes every list, the kinds 2, 3 and 4 the lists a, b and c. */
    static Suite ofAllLists(String word) {
        Suite x = withWord(word);
        x.add(0);
        x.add(0, 2, 0);
        x.add(0, 3, 0);
        x.add(0, 4, 0);
        x.add(2, A);
        x.add(3, B);
        x.add(4, C);
        return x;
    }

    int calls() {
        return calls;
    }

    // Behind the last call that is promised the answers are free, so a test there would be wrong.
    private Answer told(String call, int value) {
        calls++;
        if (calls > MOST_CALLS) {
            fault("the test itself makes more than 512 calls");
        }
        return new Answer(call, value);
    }

    private Answer told(String call, boolean value) {
        return told(call, value ? 1 : 0);
    }

    Answer rule(int kind, int length, int symbols) {
        return told("rule(" + kind + ", " + length + ", " + symbols + ")",
                suite.rule(kind, length, symbols));
    }

    Answer drop(int k) {
        return told("drop(" + k + ")", suite.drop(k));
    }

    Answer rules() {
        return told("rules()", suite.rules());
    }

    Answer write(int letter) {
        return told("write(" + letter + ")", suite.write(letter));
    }

    Answer cut(int n) {
        return told("cut(" + n + ")", suite.cut(n));
    }

    Answer makes(int engine, int kind) {
        return told("makes(" + engine + ", " + kind + ")", suite.makes(engine, kind));
    }

    Answer stretch(int engine, int kind, int i, int j) {
        return told("stretch(" + engine + ", " + kind + ", " + i + ", " + j + ")",
                suite.stretch(engine, kind, i, j));
    }

    Answer agree(int engine, int other) {
        return told("agree(" + engine + ", " + other + ")", suite.agree(engine, other));
    }

    Answer longest(int kind) {
        return told("longest(" + kind + ")", suite.longest(kind));
    }

    Answer parts(int kind) {
        return told("parts(" + kind + ")", suite.parts(kind));
    }

    Answer empty() {
        return told("empty()", suite.empty());
    }

    Answer able() {
        return told("able()", suite.able());
    }

    Answer first(int kind) {
        return told("first(" + kind + ")", suite.first(kind));
    }

    Answer shortest(int kind) {
        return told("shortest(" + kind + ")", suite.shortest(kind));
    }

    Answer count(int kind, int n) {
        return told("count(" + kind + ", " + n + ")", suite.count(kind, n));
    }

    /** Adds a rule of the kind with these symbols. */
    Answer add(int kind, int... symbols) {
        int packed = 0;
        for (int d = 0; d < symbols.length; d++) {
            packed += symbols[d] << 3 * d;
        }
        return rule(kind, symbols.length, packed);
    }

    /** Adds that many rules, which make nothing, where there are none yet. */
    void addIdleRules(int number) {
        for (int k = 0; k < number; k++) {
            add(4, 4).is(k);
        }
    }

    /** Rules 0, 1 and 3 .. 6: number 1 was dropped and used again, number 2 is free. */
    void addSomeRules() {
        add(0, 2, 0, 3);
        add(0);
        add(1, 0, C);
        add(2, A);
        add(3, B);
        add(1, 4, 4);
        drop(1);
        add(0, C);
        add(4, C, 1);
        drop(2);
    }

    /** Kind 0 makes c with as many a before it as b behind it, 1 nothing, 2 .. 4 a, b and c. */
    void addSixteenRules() {
        for (int k = 0; k < 3; k++) {
            add(2, A);
            add(3, B);
            add(4, C);
            add(0, 2, 0, 3);
            add(1, 1, k + 2);
        }
        add(0, C);
    }

    void spell(String letters) {
        for (int i = 0; i < letters.length(); i++) {
            write(letters.charAt(i) - 'a');
        }
    }

    void dueInAllEngines(int kind, boolean want) {
        for (int engine = 0; engine < 5; engine++) {
            makes(engine, kind).is(want);
        }
    }

    /** The answers that are due when kind 0 makes just the word, ab, or when nothing is made. */
    void dueOfAB(boolean made) {
        dueInAllEngines(0, made);
        for (int engine = 0; engine < 5; engine++) {
            stretch(engine, 0, 0, 2).is(made);
        }
        longest(0).is(made ? 2 : NONE);
        parts(0).is(made ? 1 : NONE);
        able().is(made ? 1 : 0);
        first(0).is(made ? 1 : 0);
        shortest(0).is(made ? 2 : NONE);
        count(0, 2).is(made ? 1 : 0);
    }
}
