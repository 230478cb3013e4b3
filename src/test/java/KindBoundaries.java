/** The boundary cases of promises 12 to 16: empty, able, first, shortest, count. */
public final class KindBoundaries extends Check {
    public static void main(String[] args) {
        test("12: the kinds that make the empty list: none, each alone, all five",
                KindBoundaries::emptyOfEach);
        test("12: by as many steps as there are kinds, in either order of the rules",
                KindBoundaries::emptyByManySteps);
        test("12: one symbol of three that does not make it is too many",
                KindBoundaries::emptyButForOne);
        test("13: the kinds that make any list at all: none, each alone, all five",
                KindBoundaries::ableOfEach);
        test("13: by as many steps as there are kinds, in either order of the rules",
                KindBoundaries::ableByManySteps);
        test("13: lists that are too long for any word count too", KindBoundaries::ableOfLongLists);
        test("14: the letters with which lists begin: none, each alone, all three",
                KindBoundaries::firstOfEach);
        test("14: the empty list begins with none", KindBoundaries::firstOfTheEmptyList);
        test("14: behind one and behind two symbols that make the empty list",
                KindBoundaries::firstBehindEmptyOnes);
        test("14: a rule with a symbol that makes nothing has no lists, wherever it stands",
                KindBoundaries::firstOfNoLists);
        test("14: by as many steps as there are kinds, in either order of the rules",
                KindBoundaries::firstByManySteps);
        test("14: lists that are too long for any word begin too",
                KindBoundaries::firstOfLongLists);
        test("14: BAD when there is no such kind", KindBoundaries::firstOfNoKind);
        test("15: the least length of a list: 0, 1, 2, 3", KindBoundaries::shortestOfEach);
        test("15: the greatest least length that sixteen rules can have",
                KindBoundaries::shortestIsGreat);
        test("15: in either order of the rules", KindBoundaries::shortestInEitherOrder);
        test("15: NONE when it makes none", KindBoundaries::shortestIsNone);
        test("15: BAD when there is no such kind", KindBoundaries::shortestOfNoKind);
        test("16: how many lists of n letters (0 .. 4): all there are, for each n",
                KindBoundaries::countOfAll);
        test("16: different lists: one that is made in several ways counts once",
                KindBoundaries::countOfDifferentOnes);
        test("16: each list of four letters counts: the first and the last too",
                KindBoundaries::countOfTheFirstAndLast);
        test("16: the word does not matter, and stays", KindBoundaries::countBesideTheWord);
        test("16: BAD when kind is out of range", KindBoundaries::countOfNoKind);
        test("16: BAD when n is out of range", KindBoundaries::countOfNoLength);
        test("16: BAD when both are", KindBoundaries::countOfNeither);
        test("12 to 16: the empty and the full word: they do not depend on it",
                KindBoundaries::anyWord);
        end();
    }

    private static void emptyOfEach() {
        Suite all = new Suite();
        all.empty().is(0);
        for (int kind = 0; kind < 5; kind++) {
            Suite x = new Suite();
            x.add(kind);
            x.empty().is(1 << kind);
            all.add(kind);
            all.empty().is((2 << kind) - 1);
        }
    }

    private static void emptyByManySteps() {
        for (int step = -1; step <= 1; step += 2) {
            Suite x = new Suite();
            int kind = step > 0 ? 0 : 4;
            for (int k = 0; k < 4; k++, kind += step) {
                x.add(kind, kind + step, kind + step, kind + step);
            }
            x.empty().is(0);
            x.add(kind);
            x.empty().is(31);
            x.drop(4);
            x.add(kind, A);
            x.empty().is(0);
        }
    }

    private static void emptyButForOne() {
        for (int place = 0; place < 3; place++) {
            Suite x = new Suite();
            x.add(1);
            x.add(0, place == 0 ? 2 : 1, place == 1 ? 2 : 1, place == 2 ? 2 : 1);
            x.add(3, place == 0 ? B : 1, place == 1 ? B : 1, place == 2 ? B : 1);
            x.empty().is(2);
        }
    }

    private static void ableOfEach() {
        Suite all = new Suite();
        all.able().is(0);
        for (int kind = 0; kind < 5; kind++) {
            Suite x = new Suite();
            x.add(kind, C);
            x.able().is(1 << kind);
            Suite y = new Suite();
            y.add(kind);
            y.able().is(1 << kind);
            all.add(kind, A, B, C);
            all.able().is((2 << kind) - 1);
        }
    }

    private static void ableByManySteps() {
        for (int step = -1; step <= 1; step += 2) {
            Suite x = new Suite();
            int kind = step > 0 ? 0 : 4;
            for (int k = 0; k < 4; k++, kind += step) {
                x.add(kind, kind + step, A, kind + step);
            }
            x.able().is(0);
            x.add(kind, B);
            x.able().is(31);
            x.drop(4);
            x.able().is(0);
        }
    }

    private static void ableOfLongLists() {
        Suite x = new Suite();
        longChain(x);
        x.able().is(31);
        x.empty().is(0);
    }

    private static void firstOfEach() {
        for (int kind = 0; kind < 5; kind++) {
            Suite x = new Suite();
            x.first(kind).is(0);
            for (int letter = 0; letter < 3; letter++) {
                x.add(kind, A + letter, A + (letter + 1) % 3);
                x.first(kind).is((2 << letter) - 1);
                Suite y = new Suite();
                y.add(kind, A + letter);
                y.first(kind).is(1 << letter);
            }
        }
    }

    private static void firstOfTheEmptyList() {
        Suite x = new Suite();
        x.add(0);
        x.add(1, 0, 0, 0);
        x.first(0).is(0);
        x.first(1).is(0);
    }

    private static void firstBehindEmptyOnes() {
        Suite x = new Suite();
        x.add(0, 1, 2, C);
        x.add(1, A);
        x.add(2, B);
        x.first(0).is(1);
        x.add(1);
        x.first(0).is(3);
        x.add(2);
        x.first(0).is(7);
        x.drop(3);
        x.first(0).is(1);
    }

    private static void firstOfNoLists() {
        for (int place = 0; place < 3; place++) {
            Suite x = new Suite();
            x.add(3);
            x.add(0, place == 0 ? 4 : A, place == 1 ? 4 : B, place == 2 ? 4 : C);
            x.add(1, place == 0 ? 4 : 3, place == 1 ? 4 : B, place == 2 ? 4 : 3);
            x.first(0).is(0);
            x.first(1).is(0);
            x.add(4);
            x.first(0).is(place == 0 ? 2 : 1);
        }
    }

    private static void firstByManySteps() {
        for (int step = -1; step <= 1; step += 2) {
            Suite x = new Suite();
            int kind = step > 0 ? 0 : 4;
            int begin = kind;
            for (int k = 0; k < 4; k++, kind += step) {
                x.add(kind, kind + step, A);
            }
            x.add(kind, C);
            x.first(begin).is(4);
        }
    }

    private static void firstOfLongLists() {
        Suite x = new Suite();
        longChain(x);
        x.first(0).is(2);
    }

    private static void firstOfNoKind() {
        Suite x = Suite.ofAllLists(TEN);
        x.first(0).is(7);
        x.first(4).is(4);
        for (int kind : NO_KINDS) {
            x.first(kind).is(BAD);
            new Suite().first(kind).is(BAD);
        }
    }

    private static void shortestOfEach() {
        Suite x = new Suite();
        x.add(3, A, B, C);
        x.shortest(3).is(3);
        x.add(3, C, A);
        x.shortest(3).is(2);
        x.add(3, B);
        x.shortest(3).is(1);
        x.add(3);
        x.shortest(3).is(0);
        x.drop(3);
        x.drop(2);
        x.drop(1);
        x.shortest(3).is(3);
    }

    private static void shortestIsGreat() {
        Suite x = new Suite();
        longChain(x);
        x.shortest(0).is(243);
        x.shortest(1).is(81);
        x.shortest(4).is(3);
        x.add(4, 4, 4);
        x.add(1, 0);
        x.add(2, 2, A);
        x.shortest(0).is(243);
        x.add(0, 1, 1);
        x.shortest(0).is(162);
    }

    private static void shortestInEitherOrder() {
        Suite x = new Suite();
        x.add(0, A, A, A);
        for (int kind = 1; kind < 5; kind++) {
            x.add(kind, kind - 1, kind - 1, kind - 1);
        }
        x.shortest(4).is(243);
        x.add(0);
        x.shortest(4).is(0);
    }

    private static void shortestIsNone() {
        Suite x = new Suite();
        for (int kind = 0; kind < 5; kind++) {
            x.shortest(kind).is(NONE);
        }
        x.add(0, 0, A);
        x.add(1, A, 0);
        x.add(2, B);
        x.shortest(0).is(NONE);
        x.shortest(1).is(NONE);
        x.shortest(2).is(1);
    }

    private static void shortestOfNoKind() {
        Suite x = Suite.ofAllLists(TEN);
        x.shortest(0).is(0);
        x.shortest(4).is(1);
        for (int kind : NO_KINDS) {
            x.shortest(kind).is(BAD);
        }
    }

    private static void countOfAll() {
        int[] all = {1, 3, 9, 27, 81};
        Suite x = Suite.ofAllLists("");
        for (int n = 0; n <= 4; n++) {
            x.count(0, n).is(all[n]);
            x.count(4, n).is(n == 1 ? 1 : 0);
            x.count(1, n).is(0);
        }
    }

    private static void countOfDifferentOnes() {
        Suite x = new Suite();
        x.add(0, 0, 0);
        x.add(0, 0);
        x.add(0, A);
        x.add(0, A);
        x.add(0, A, A);
        x.add(0, B);
        x.add(0);
        x.add(0);
        int[] powers = {1, 2, 4, 8, 16};
        for (int n = 0; n <= 4; n++) {
            x.count(0, n).is(powers[n]);
        }
    }

    private static void countOfTheFirstAndLast() {
        for (int letter = 0; letter < 3; letter++) {
            int c = A + letter;
            Suite x = new Suite();
            x.add(0, c, c, 1);
            x.add(1, c, c);
            x.count(0, 4).is(1);
            x.count(0, 3).is(0);
        }
    }

    private static void countBesideTheWord() {
        for (String word : new String[] {"", "a", TEN}) {
            Suite x = Suite.ofAllLists(word);
            x.count(0, 4).is(81);
            x.count(2, 1).is(1);
            x.cut(0).is(word.length());
            for (int i = 0; i < word.length(); i++) {
                x.stretch(i % 5, 2 + word.charAt(i) - 'a', i, i + 1).is(true);
            }
        }
    }

    private static void countOfNoKind() {
        for (int n = 0; n <= 4; n++) {
            Suite x = Suite.ofAllLists(TEN);
            for (int kind : NO_KINDS) {
                x.count(kind, n).is(BAD);
            }
        }
    }

    private static void countOfNoLength() {
        for (int kind = 0; kind < 5; kind++) {
            Suite x = Suite.ofAllLists(TEN);
            for (int n : outside(4)) {
                x.count(kind, n).is(BAD);
            }
        }
    }

    private static void countOfNeither() {
        Suite x = Suite.ofAllLists(TEN);
        for (int any : outside(4)) {
            x.count(any, any).is(BAD);
            x.count(-1, any).is(BAD);
            x.count(any, 5).is(BAD);
        }
    }

    private static void anyWord() {
        for (String word : new String[] {"", "c", TEN}) {
            Suite x = Suite.withWord(word);
            x.addSomeRules();
            x.empty().is(0);
            x.able().is(13);
            x.first(0).is(5);
            x.first(4).is(0);
            x.shortest(0).is(1);
            x.shortest(4).is(NONE);
            x.count(0, 3).is(1);
        }
    }

    // Kind 0 makes just one list, of 243 letters b.
    private static void longChain(Suite x) {
        for (int kind = 0; kind < 4; kind++) {
            x.add(kind, kind + 1, kind + 1, kind + 1);
        }
        x.add(4, B, B, B);
    }
}
