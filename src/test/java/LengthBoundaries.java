/** The boundary cases of promises 10 and 11: longest, parts. */
public final class LengthBoundaries extends Check {
    public static void main(String[] args) {
        test("10: the longest stretch: each length at each place of a word of ten",
                LengthBoundaries::longestOfEach);
        test("10: the length 0 when a kind makes just the empty stretch",
                LengthBoundaries::longestIsEmpty);
        test("10: NONE when it makes none", LengthBoundaries::longestIsNone);
        test("10: with sixteen rules", LengthBoundaries::longestWithSixteenRules);
        test("10: BAD when there is no such kind", LengthBoundaries::longestOfNoKind);
        test("11: the least number of stretches: 1 .. 10", LengthBoundaries::partsOfEach);
        test("11: the least number: neither the longest stretches first nor last",
                LengthBoundaries::partsAreTheFewest);
        test("11: none of them empty", LengthBoundaries::partsAreNotEmpty);
        test("11: 0 when the word is empty", LengthBoundaries::partsOfTheEmptyWord);
        test("11: NONE when that can't be done: the first, a middle or the last letter is left",
                LengthBoundaries::partsAreNone);
        test("11: BAD when there is no such kind", LengthBoundaries::partsOfNoKind);
        end();
    }

    private static void longestOfEach() {
        for (int length = 1; length <= 10; length++) {
            for (int from = 0; from + length <= 10; from++) {
                String run = "aaaaaaaaaa".substring(0, length);
                String word = "b".repeat(from) + run + "b".repeat(10 - from - length);
                Suite x = Suite.withWord(word);
                x.add(3, A, 3);
                x.add(3, A);
                x.longest(3).is(length);
            }
        }
    }

    private static void longestIsEmpty() {
        for (String word : new String[] {"", "a", TEN}) {
            Suite x = Suite.withWord(word);
            x.add(2);
            x.longest(2).is(0);
            x.add(2, B, A);
            x.longest(2).is(0);
        }
    }

    private static void longestIsNone() {
        for (String word : new String[] {"", "b", "bbbbbbbbbb"}) {
            Suite x = Suite.withWord(word);
            x.longest(0).is(NONE);
            x.add(0, A);
            x.add(0, A, B);
            x.add(1, 1);
            x.longest(0).is(NONE);
            x.longest(1).is(NONE);
        }
    }

    private static void longestWithSixteenRules() {
        Suite x = Suite.withWord("abcaacbbba");
        x.addSixteenRules();
        x.longest(0).is(5);
        x.longest(1).is(NONE);
        x.longest(4).is(1);
    }

    private static void longestOfNoKind() {
        Suite x = Suite.ofAllLists(TEN);
        x.longest(0).is(10);
        x.longest(4).is(1);
        for (int kind : NO_KINDS) {
            x.longest(kind).is(BAD);
        }
    }

    private static void partsOfEach() {
        for (int length = 1; length <= 10; length++) {
            Suite x = Suite.withWord("cccccccccc".substring(0, length));
            x.add(0, C);
            x.add(1, C);
            x.add(1, C, C, C);
            x.add(2, C, 2);
            x.add(2, C);
            x.add(3, C, C);
            x.parts(0).is(length);
            x.parts(1).is(length / 3 + length % 3);
            x.parts(2).is(1);
            x.parts(3).is(length % 2 == 0 ? length / 2 : NONE);
            x.parts(4).is(NONE);
        }
    }

    private static void partsAreTheFewest() {
        Suite x = Suite.withWord("abccc");
        x.add(0, A);
        x.add(0, B);
        x.add(0, C, C, C);
        x.parts(0).is(3);
        x.add(0, A, B, C);
        x.parts(0).is(3);
        x.add(0, C, C);
        x.parts(0).is(2);
        Suite y = Suite.withWord("aaabb");
        y.add(0, A, A, A);
        y.add(0, B);
        y.parts(0).is(3);
        y.add(0, A, A);
        y.add(0, A, B, B);
        y.parts(0).is(2);
    }

    private static void partsAreNotEmpty() {
        Suite x = Suite.withWord("ab");
        x.add(0);
        x.add(1);
        x.add(1, A);
        x.add(2);
        x.add(2, A);
        x.add(2, B);
        x.parts(0).is(NONE);
        x.parts(1).is(NONE);
        x.parts(2).is(2);
    }

    private static void partsOfTheEmptyWord() {
        Suite x = new Suite();
        for (int kind = 0; kind < 5; kind++) {
            x.parts(kind).is(0);
        }
        x.add(0);
        x.add(1, 1);
        x.add(2, A);
        x.spell(TEN);
        x.cut(10);
        for (int kind = 0; kind < 5; kind++) {
            x.parts(kind).is(0);
        }
    }

    private static void partsAreNone() {
        for (int place = 0; place < 10; place++) {
            String word = "aaaaaaaaaa".substring(0, place) + "b" + "aaaaaaaaa".substring(place);
            Suite x = Suite.withWord(word);
            x.add(0, A);
            x.parts(0).is(NONE);
            x.add(0, B);
            x.parts(0).is(10);
        }
    }

    private static void partsOfNoKind() {
        Suite x = Suite.ofAllLists(TEN);
        x.parts(0).is(1);
        x.parts(4).is(NONE);
        for (int kind : NO_KINDS) {
            x.parts(kind).is(BAD);
        }
    }
}
