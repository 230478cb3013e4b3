/** The boundary cases of promises 7, 8 and 9: makes, stretch, agree. */
public final class FindBoundaries extends Check {
    public static void main(String[] args) {
        test("7: whether a kind makes the word: no rules", FindBoundaries::makesWithoutRules);
        test("7: whether a kind makes the word: words of 0 .. 10 letters",
                FindBoundaries::makesOfEachLength);
        test("7: the whole word, not some stretch of it: the first and the last letter count",
                FindBoundaries::makesOfTheWhole);
        test("7: with sixteen rules", FindBoundaries::makesWithSixteenRules);
        test("7: false when there is no such kind", FindBoundaries::makesOfNoKind);
        test("7: false when there is no such engine", FindBoundaries::makesOfNoEngine);
        test("8: whether a kind makes the stretch: 0 <= i <= j <= the word's length, no other",
                FindBoundaries::stretchesInRange);
        test("8: false when there is no such stretch: far outside",
                FindBoundaries::stretchesFarOutside);
        test("8: false when there is no such stretch: i behind j",
                FindBoundaries::stretchesBackwards);
        test("8: false when there is no such kind", FindBoundaries::stretchOfNoKind);
        test("8: false when there is no such engine", FindBoundaries::stretchOfNoEngine);
        test("9: two engines find the same: each pair, an engine and itself too",
                FindBoundaries::agreeingPairs);
        test("9: false when one is none", FindBoundaries::agreeWithNone);
        test("9: false when both are none, the same one too", FindBoundaries::agreeOfTwoNone);
        end();
    }

    private static void makesWithoutRules() {
        for (String word : new String[] {"", "a", TEN}) {
            Suite x = Suite.withWord(word);
            for (int kind = 0; kind < 5; kind++) {
                x.dueInAllEngines(kind, false);
            }
        }
    }

    private static void makesOfEachLength() {
        for (int length = 0; length <= 10; length++) {
            Suite x = Suite.withWord("aaaaaaaaaa".substring(0, length));
            x.add(0, A, 0);
            x.add(0);
            x.add(1, 1, A);
            x.add(1, A);
            x.add(2, A, A, 2);
            x.add(2);
            x.add(3, 3, 3);
            x.add(3, A, A, A);
            x.dueInAllEngines(0, true);
            x.dueInAllEngines(1, length > 0);
            x.dueInAllEngines(2, length % 2 == 0);
            x.dueInAllEngines(3, length > 0 && length % 3 == 0);
            x.dueInAllEngines(4, false);
        }
    }

    private static void makesOfTheWhole() {
        String[] words = {"baaaaaaaaa", "aaaaaaaaab", "aaaaabaaaa"};
        for (String word : words) {
            Suite x = Suite.withWord(word);
            x.add(0, A, 0);
            x.add(0);
            x.add(1, 0, B, 0);
            x.dueInAllEngines(0, false);
            x.dueInAllEngines(1, true);
        }
    }

    private static void makesWithSixteenRules() {
        Suite x = Suite.withWord("aaaacbbbb");
        x.addSixteenRules();
        x.dueInAllEngines(0, true);
        x.dueInAllEngines(1, false);
        x.write(1);
        x.dueInAllEngines(0, false);
    }

    private static void makesOfNoKind() {
        Suite x = Suite.ofAllLists("a");
        for (int engine = 0; engine < 5; engine++) {
            x.makes(engine, 0).is(true);
            for (int kind : NO_KINDS) {
                x.makes(engine, kind).is(false);
            }
        }
        x.add(4, A);
        x.dueInAllEngines(4, true);
    }

    private static void makesOfNoEngine() {
        for (String word : new String[] {"", TEN}) {
            Suite x = Suite.ofAllLists(word);
            x.makes(0, 0).is(true);
            x.makes(4, 0).is(true);
            for (int engine : NO_ENGINES) {
                x.makes(engine, 0).is(false);
                x.makes(engine, engine).is(false);
            }
        }
    }

    private static void stretchesInRange() {
        for (int length = 0; length <= 10; length++) {
            for (int engine = 0; engine < 5; engine++) {
                Suite x = Suite.ofAllLists(TEN.substring(0, length));
                for (int i = -1; i <= length + 1; i++) {
                    for (int j = -1; j <= length + 1; j++) {
                        x.stretch(engine, 0, i, j).is(0 <= i && i <= j && j <= length);
                    }
                }
            }
        }
    }

    private static void stretchesFarOutside() {
        // The last two wrap around to cells of small numbers when multiplied by ten or eleven.
        int[] far = {MIN, MIN + 1, -11, -10, 11, 12, 100, MAX - 1, MAX, 429496730, 390451573};
        for (int engine = 0; engine < 5; engine++) {
            Suite x = Suite.ofAllLists(TEN);
            for (int any : far) {
                x.stretch(engine, 0, any, any).is(false);
                x.stretch(engine, 0, 0, any).is(false);
                x.stretch(engine, 0, any, 10).is(false);
                x.stretch(engine, 0, any, 0).is(false);
                x.stretch(engine, 0, 10, any).is(false);
                x.stretch(engine, 0, -1 - any, any).is(false);
            }
        }
    }

    private static void stretchesBackwards() {
        for (int engine = 0; engine < 5; engine++) {
            Suite x = Suite.ofAllLists(TEN);
            for (int i = 1; i <= 10; i++) {
                x.stretch(engine, 0, i, i - 1).is(false);
                x.stretch(engine, 0, i, 0).is(false);
                x.stretch(engine, 0, i, i).is(true);
            }
        }
    }

    private static void stretchOfNoKind() {
        for (int engine = 0; engine < 5; engine++) {
            Suite x = Suite.ofAllLists(TEN);
            for (int kind : NO_KINDS) {
                x.stretch(engine, kind, 0, 10).is(false);
                x.stretch(engine, kind, 0, 0).is(false);
                x.stretch(engine, kind, 0, 1).is(false);
            }
            x.stretch(engine, 0, 0, 10).is(true);
            x.stretch(engine, 4, 2, 3).is(true);
        }
    }

    private static void stretchOfNoEngine() {
        Suite x = Suite.ofAllLists(TEN);
        for (int engine : NO_ENGINES) {
            x.stretch(engine, 0, 0, 10).is(false);
            x.stretch(engine, 0, 0, 0).is(false);
            x.stretch(engine, engine, engine, engine).is(false);
        }
        x.stretch(0, 0, 0, 10).is(true);
        x.stretch(4, 0, 0, 10).is(true);
    }

    private static void agreeingPairs() {
        allAgree(new Suite());
        allAgree(Suite.withWord(TEN));
        allAgree(Suite.ofAllLists(""));
        allAgree(Suite.ofAllLists(TEN));
        Suite x = new Suite();
        x.addSixteenRules();
        allAgree(x);
        x.spell("aacbbcabab");
        allAgree(x);
    }

    private static void allAgree(Suite x) {
        for (int engine = 0; engine < 5; engine++) {
            for (int other = 0; other < 5; other++) {
                x.agree(engine, other).is(true);
            }
        }
    }

    private static void agreeWithNone() {
        for (String word : new String[] {"", TEN}) {
            Suite x = Suite.ofAllLists(word);
            for (int none : NO_ENGINES) {
                for (int engine = 0; engine < 5; engine++) {
                    x.agree(engine, none).is(false);
                    x.agree(none, engine).is(false);
                }
            }
        }
    }

    private static void agreeOfTwoNone() {
        Suite x = new Suite();
        for (int none : NO_ENGINES) {
            x.agree(none, none).is(false);
            x.agree(none, -1).is(false);
            x.agree(5, none).is(false);
        }
    }
}
