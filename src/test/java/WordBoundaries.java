/** The boundary cases of promises 5 and 6: write, cut. */
public final class WordBoundaries extends Check {
    public static void main(String[] args) {
        test("5: appends a letter to the word and answers its length: 1, 2, .. 10",
                WordBoundaries::lengthsOfWrite);
        test("5: appends it behind the others: the first and the tenth letter too",
                WordBoundaries::placesOfWrite);
        test("5: BAD when letter is not 0 .. 2", WordBoundaries::noSuchLetter);
        test("5: FULL when it has ten", WordBoundaries::fullWord);
        test("6: takes the last n letters away (or all, if it has less): each n, each length",
                WordBoundaries::cutOfEach);
        test("6: cut(0) takes nothing away", WordBoundaries::cutOfNothing);
        test("6: the letters that were cut do not come back", WordBoundaries::cutIsFelt);
        test("6: BAD when n is not 0 .. 10", WordBoundaries::noSuchCut);
        end();
    }

    private static void lengthsOfWrite() {
        Suite x = new Suite();
        for (int k = 1; k <= 10; k++) {
            x.write(TEN.charAt(k - 1) - 'a').is(k);
            x.cut(0).is(k);
        }
    }

    private static void placesOfWrite() {
        for (int letter = 0; letter < 3; letter++) {
            Suite x = Suite.ofAllLists("");
            for (int k = 0; k < 10; k++) {
                x.write((letter + k) % 3).is(k + 1);
                x.stretch(k % 5, 2 + (letter + k) % 3, k, k + 1).is(true);
                x.stretch(k % 5, 2 + letter, 0, 1).is(true);
            }
        }
    }

    private static void noSuchLetter() {
        new Suite().write(0).is(1);
        new Suite().write(2).is(1);
        Suite x = new Suite();
        for (int letter : outside(2)) {
            x.write(letter).is(BAD);
        }
        x.write(A).is(BAD);
        x.cut(0).is(0);
    }

    private static void fullWord() {
        Suite x = Suite.withWord("aaaaaaaaa");
        x.write(0).is(10);
        x.write(0).is(FULL);
        x.write(1).is(FULL);
        x.write(2).is(FULL);
        x.cut(1).is(9);
        x.write(2).is(10);
        x.write(2).is(FULL);
        x.cut(10).is(0);
        x.write(2).is(1);
    }

    private static void cutOfEach() {
        for (int length = 0; length <= 10; length++) {
            for (int n = 0; n <= 10; n++) {
                cutOf(length, n);
            }
        }
    }

    private static void cutOf(int length, int n) {
        int left = Math.max(0, length - n);
        Suite x = Suite.ofAllLists(TEN.substring(0, length));
        x.cut(n).is(left);
        x.cut(0).is(left);
        for (int i = 0; i < 10; i++) {
            for (int letter = 0; letter < 3; letter++) {
                boolean there = i < left && TEN.charAt(i) == 'a' + letter;
                x.stretch((length + n) % 5, 2 + letter, i, i + 1).is(there);
            }
        }
        x.longest(0).is(left);
        x.dueInAllEngines(0, true);
        if (left < 10) {
            x.write(1).is(left + 1);
            x.stretch(n % 5, 3, left, left + 1).is(true);
        }
    }

    private static void cutOfNothing() {
        for (int length = 0; length <= 10; length++) {
            Suite x = Suite.withWord(TEN.substring(0, length));
            x.cut(0).is(length);
            x.cut(0).is(length);
        }
    }

    private static void cutIsFelt() {
        for (int engine = 0; engine < 5; engine++) {
            Suite x = Suite.ofAllLists("aaaaaaaaaa");
            x.cut(9).is(1);
            x.stretch(engine, 2, 1, 2).is(false);
            x.write(1).is(2);
            x.stretch(engine, 2, 1, 2).is(false);
            x.stretch(engine, 3, 1, 2).is(true);
            x.stretch(engine, 0, 0, 2).is(true);
            x.stretch(engine, 0, 0, 3).is(false);
        }
    }

    private static void noSuchCut() {
        for (String word : new String[] {"", "abc", TEN}) {
            Suite x = Suite.withWord(word);
            for (int n : outside(10)) {
                x.cut(n).is(BAD);
            }
            x.cut(0).is(word.length());
            x.cut(10).is(0);
        }
    }
}
