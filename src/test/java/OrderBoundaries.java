import java.util.ArrayList;
import java.util.List;
import java.util.function.Consumer;

/** The boundary cases of promise 17: the order of tests, and calls that change nothing. */
public final class OrderBoundaries extends Check {
    public static void main(String[] args) {
        test("17: write: letter is not 0 .. 2: BAD, before the word has ten: FULL",
                OrderBoundaries::writeInOrder);
        test("17: longest: no such kind (BAD) before all else: no rules, empty and full word",
                OrderBoundaries::longestInOrder);
        test("17: parts: no such kind (BAD) before all else: no rules, full word",
                OrderBoundaries::partsInOrder);
        test("17: parts: no such kind (BAD) before the word being empty",
                OrderBoundaries::partsOfNoKindAndTheEmptyWord);
        test("17: shortest: no such kind (BAD) before all else: no rules and sixteen",
                OrderBoundaries::shortestInOrder);
        test("3: drop changes nothing when it answers false: a number that no rule can have",
                OrderBoundaries::dropOfNoNumber);
        test("3: drop changes nothing when it answers false: a number that no rule has",
                OrderBoundaries::dropOfNoRule);
        test("17: cut changes nothing when it answers BAD", OrderBoundaries::badCut);
        test("17: write changes nothing when it answers BAD", OrderBoundaries::badWrite);
        test("17: write changes nothing when it answers FULL", OrderBoundaries::fullWrite);
        test("17: rule changes nothing when it answers BAD", OrderBoundaries::badRule);
        test("17: rule changes nothing when it answers FULL", OrderBoundaries::fullRule);
        test("17: what only asks changes nothing, with right and with wrong arguments",
                OrderBoundaries::asking);
        end();
    }

    private static void writeInOrder() {
        Suite x = Suite.withWord(TEN);
        for (int letter : outside(2)) {
            x.write(letter).is(BAD);
        }
        for (int letter = 0; letter < 3; letter++) {
            x.write(letter).is(FULL);
        }
    }

    private static void longestInOrder() {
        for (String word : new String[] {"", TEN}) {
            Suite x = Suite.withWord(word);
            x.longest(4).is(NONE);
            for (int kind : NO_KINDS) {
                x.longest(kind).is(BAD);
            }
        }
    }

    private static void partsInOrder() {
        Suite x = Suite.withWord(TEN);
        x.parts(4).is(NONE);
        for (int kind : NO_KINDS) {
            x.parts(kind).is(BAD);
        }
    }

    private static void partsOfNoKindAndTheEmptyWord() {
        Suite x = new Suite();
        x.parts(4).is(0);
        for (int kind : NO_KINDS) {
            x.parts(kind).is(BAD);
        }
        x.addIdleRules(16);
        for (int kind : NO_KINDS) {
            x.parts(kind).is(BAD);
        }
    }

    private static void shortestInOrder() {
        Suite x = new Suite();
        x.shortest(4).is(NONE);
        for (int kind : NO_KINDS) {
            x.shortest(kind).is(BAD);
        }
        x.addIdleRules(16);
        x.shortest(4).is(NONE);
        for (int kind : NO_KINDS) {
            x.shortest(kind).is(BAD);
        }
    }

    private static void dropOfNoNumber() {
        inEachState(x -> {
            for (int k : outside(15)) {
                x.drop(k).is(false);
            }
        });
    }

    private static void dropOfNoRule() {
        changesNothing(x -> x.spell(TEN), x -> {
            for (int k = 0; k < 16; k++) {
                x.drop(k).is(false);
            }
        });
        changesNothing(Suite::addSomeRules, x -> {
            x.drop(2).is(false);
            for (int k = 7; k < 16; k++) {
                x.drop(k).is(false);
            }
        });
    }

    private static void badCut() {
        inEachState(x -> {
            for (int n : outside(10)) {
                x.cut(n).is(BAD);
            }
        });
    }

    private static void badWrite() {
        inEachState(x -> {
            for (int letter : outside(2)) {
                x.write(letter).is(BAD);
            }
        });
    }

    private static void fullWrite() {
        Consumer<Suite> refused = x -> {
            for (int letter = 0; letter < 3; letter++) {
                x.write(letter).is(FULL);
            }
        };
        changesNothing(x -> x.spell(TEN), refused);
        changesNothing(x -> {
            x.addSixteenRules();
            x.spell(TEN);
        }, refused);
    }

    private static void badRule() {
        inEachState(x -> {
            for (int any : new int[] {-1, 5, MIN, MAX}) {
                x.rule(any, 0, 0).is(BAD);
                x.rule(any, 1, B).is(BAD);
            }
            for (int any : new int[] {-1, 4, MIN, MAX}) {
                x.rule(0, any, 0).is(BAD);
                x.rule(1, any, B).is(BAD);
            }
            for (int length = 0; length <= 3; length++) {
                x.rule(2, length, -1).is(BAD);
                x.rule(3, length, 1 << 3 * length).is(BAD);
                x.rule(4, length, MAX).is(BAD);
            }
        });
    }

    private static void fullRule() {
        Consumer<Suite> refused = x -> {
            for (int kind = 0; kind < 5; kind++) {
                x.rule(kind, 0, 0).is(FULL);
                x.rule(kind, 1, A + kind % 3).is(FULL);
                x.rule(kind, 3, 511).is(FULL);
            }
        };
        changesNothing(Suite::addSixteenRules, refused);
        changesNothing(x -> {
            x.addSixteenRules();
            x.spell("aacbbcabab");
        }, refused);
    }

    private static void asking() {
        int[] some = {0, 4, -1, 5};
        inEachState(x -> {
            for (int any : some) {
                x.makes(any, any);
                x.stretch(any, any, 0, any);
                x.agree(any, any);
                x.longest(any);
                x.parts(any);
                x.first(any);
                x.shortest(any);
                x.count(any, any);
            }
            x.rules();
            x.empty();
            x.able();
            x.count(4, 4);
        });
    }

    // What is asked of every object at the end to see whether two of them are alike.
    private static List<Answer> shown(Suite x) {
        List<Answer> all = new ArrayList<>();
        all.add(x.rules());
        all.add(x.cut(0));
        all.add(x.empty());
        all.add(x.able());
        for (int kind = 0; kind < 5; kind++) {
            all.add(x.longest(kind));
            all.add(x.parts(kind));
            all.add(x.first(kind));
            all.add(x.shortest(kind));
            for (int n = 0; n <= 4; n++) {
                all.add(x.count(kind, n));
            }
            for (int i = 0; i <= 10; i++) {
                for (int j = i; j <= 10; j++) {
                    all.add(x.stretch((i + j + kind) % 5, kind, i, j));
                }
            }
        }
        all.add(x.add(1, B, B));
        all.add(x.count(1, 2));
        all.add(x.write(1));
        all.add(x.longest(1));
        for (int k = 0; k < 16; k++) {
            all.add(x.drop(k));
        }
        return all;
    }

    private static void changesNothing(Consumer<Suite> before, Consumer<Suite> calls) {
        Suite touched = new Suite();
        before.accept(touched);
        calls.accept(touched);
        Suite untouched = new Suite();
        before.accept(untouched);
        List<Answer> want = shown(untouched);
        List<Answer> got = shown(touched);
        for (int k = 0; k < want.size(); k++) {
            got.get(k).is(want.get(k).value());
        }
    }

    private static void inEachState(Consumer<Suite> calls) {
        changesNothing(x -> { }, calls);
        changesNothing(Suite::addSomeRules, calls);
        changesNothing(Suite::addSixteenRules, calls);
        changesNothing(x -> x.spell("abc"), calls);
        changesNothing(x -> x.spell(TEN), calls);
        changesNothing(x -> {
            x.addSomeRules();
            x.spell("aacbb");
        }, calls);
        changesNothing(x -> {
            x.addSixteenRules();
            x.spell("aacbbcabab");
        }, calls);
    }
}
