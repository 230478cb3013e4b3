/** The boundary cases of promises 2, 3 and 4: rule, drop, rules. */
public final class RuleBoundaries extends Check {
    public static void main(String[] args) {
        test("2: answers the least number that none has: 0, 1, .. 15 on a new object",
                RuleBoundaries::numbersOnANewObject);
        test("2: the least number that none has: after a drop of sixteen",
                RuleBoundaries::numbersAfterTwoDrops);
        test("2: the least number that none has: a gap before the numbers behind the last",
                RuleBoundaries::numbersWithAGap);
        test("2: the least number that none has: 0 when all sixteen are dropped",
                RuleBoundaries::numbersAfterAllDrops);
        test("2: the same rule again gets a number of its own", RuleBoundaries::sameRuleAgain);
        test("2: a + 8 * b + 64 * c, as far as length says: every list of symbols",
                RuleBoundaries::everyListOfSymbols);
        test("2: BAD when kind is not 0 .. 4", RuleBoundaries::noSuchKind);
        test("2: BAD when length is not 0 .. 3", RuleBoundaries::noSuchLength);
        test("2: BAD when symbols is not 0 .. one less than 8 to the power of length",
                RuleBoundaries::noSuchSymbols);
        test("2: FULL when there are sixteen", RuleBoundaries::fullOfRules);
        test("2: tested in this order: BAD before FULL", RuleBoundaries::badBeforeFull);
        test("2: BAD when all three are wrong", RuleBoundaries::allThreeWrong);
        test("3: takes rule k away and answers true: each of sixteen", RuleBoundaries::dropOfEach);
        test("3: takes rule k away: it makes nothing any more", RuleBoundaries::dropIsFelt);
        test("3: false when there is none: on a new object", RuleBoundaries::dropOfNoneYet);
        test("3: false when there is none: the number behind the last rule, and a gap",
                RuleBoundaries::dropOfAGap);
        test("3: false when there is none: a number that no rule can have",
                RuleBoundaries::dropOfNoNumber);
        test("4: bit k for rule k: none, each alone, all sixteen", RuleBoundaries::rulesAreBits);
        end();
    }

    private static void numbersOnANewObject() {
        Suite x = new Suite();
        for (int k = 0; k < 16; k++) {
            x.rule(k % 5, k % 4, 0).is(k);
        }
    }

    private static void numbersAfterTwoDrops() {
        for (int k = 0; k < 16; k++) {
            for (int m = 0; m < 16; m++) {
                Suite x = new Suite();
                x.addSixteenRules();
                x.drop(k).is(true);
                x.drop(m).is(m != k);
                x.rule(1, 0, 0).is(Math.min(k, m));
                x.rule(1, 0, 0).is(m == k ? FULL : Math.max(k, m));
                x.rule(1, 0, 0).is(FULL);
            }
        }
    }

    private static void numbersWithAGap() {
        Suite x = new Suite();
        for (int k = 0; k < 6; k++) {
            x.rule(0, 0, 0).is(k);
        }
        x.drop(4).is(true);
        x.drop(1).is(true);
        x.rule(0, 0, 0).is(1);
        x.rule(0, 0, 0).is(4);
        x.rule(0, 0, 0).is(6);
        x.drop(6).is(true);
        x.drop(5).is(true);
        x.rule(0, 0, 0).is(5);
        x.rule(0, 0, 0).is(6);
    }

    private static void numbersAfterAllDrops() {
        Suite x = new Suite();
        x.addSixteenRules();
        for (int k = 0; k < 16; k++) {
            x.drop(k).is(true);
        }
        x.rule(2, 0, 0).is(0);
        x.rule(2, 0, 0).is(1);
        x.rules().is(3);
    }

    private static void sameRuleAgain() {
        Suite x = new Suite();
        x.add(2, A).is(0);
        x.add(2, A).is(1);
        x.drop(0).is(true);
        x.count(2, 1).is(1);
        x.drop(1).is(true);
        x.count(2, 1).is(0);
    }

    private static void everyListOfSymbols() {
        for (int length = 0; length <= 3; length++) {
            for (int symbols = 0; symbols < 1 << 3 * length; symbols++) {
                ruleOfSymbols(length, symbols);
            }
        }
    }

    // The kinds 1 .. 4 make one list each, kind 0 has only the rule that is tested.
    private static void ruleOfSymbols(int length, int symbols) {
        String[] lists = {null, "aab", "bc", "", "cc", "a", "b", "c"};
        Suite x = new Suite();
        x.add(1, A, A, B);
        x.add(2, B, C);
        x.add(3);
        x.add(4, C, C);
        x.rule(0, length, symbols).is(4);
        String word = "";
        for (int d = 0; d < length && word != null; d++) {
            String list = lists[symbols >> 3 * d & 7];
            word = list == null ? null : word + list;
        }
        boolean made = word != null;
        x.spell(made ? word : "aab");
        x.dueInAllEngines(0, made);
        x.shortest(0).is(made ? word.length() : NONE);
        x.first(0).is(made && !word.isEmpty() ? 1 << word.charAt(0) - 'a' : 0);
        for (int n = 0; n <= 4; n++) {
            x.count(0, n).is(made && word.length() == n ? 1 : 0);
        }
    }

    private static void noSuchKind() {
        for (int length = 0; length <= 3; length++) {
            new Suite().rule(0, length, 0).is(0);
            new Suite().rule(4, length, 0).is(0);
            Suite x = new Suite();
            for (int kind : NO_KINDS) {
                x.rule(kind, length, 0).is(BAD);
            }
            x.rules().is(0);
        }
    }

    private static void noSuchLength() {
        new Suite().rule(2, 0, 0).is(0);
        new Suite().rule(2, 3, 0).is(0);
        Suite x = new Suite();
        for (int length : outside(3)) {
            x.rule(2, length, 0).is(BAD);
            x.rule(2, length, 1).is(BAD);
            x.rule(2, length, 511).is(BAD);
            x.rule(2, length, -1).is(BAD);
        }
        x.rules().is(0);
    }

    private static void noSuchSymbols() {
        for (int length = 0; length <= 3; length++) {
            int last = (1 << 3 * length) - 1;
            Suite x = new Suite();
            x.rule(1, length, 0).is(0);
            x.rule(1, length, last).is(1);
            for (int symbols : outside(last)) {
                x.rule(1, length, symbols).is(BAD);
            }
            for (int far = last + 1; far > 0; far *= 2) {
                x.rule(1, length, far).is(BAD);
                x.rule(1, length, -far).is(BAD);
            }
            x.rules().is(3);
        }
    }

    private static void fullOfRules() {
        Suite x = new Suite();
        x.addIdleRules(15);
        x.rule(4, 3, 511).is(15);
        for (int kind = 0; kind < 5; kind++) {
            for (int length = 0; length <= 3; length++) {
                x.rule(kind, length, 0).is(FULL);
                x.rule(kind, length, (1 << 3 * length) - 1).is(FULL);
            }
        }
        x.drop(15).is(true);
        x.rule(0, 0, 0).is(15);
        x.rule(0, 0, 0).is(FULL);
    }

    private static void badBeforeFull() {
        Suite x = new Suite();
        x.addIdleRules(16);
        for (int kind : NO_KINDS) {
            x.rule(kind, 0, 0).is(BAD);
            x.rule(kind, 3, 511).is(BAD);
        }
        for (int length : outside(3)) {
            x.rule(0, length, 0).is(BAD);
            x.rule(4, length, 1).is(BAD);
        }
        for (int length = 0; length <= 3; length++) {
            x.rule(0, length, -1).is(BAD);
            x.rule(4, length, 1 << 3 * length).is(BAD);
            x.rule(0, length, MIN).is(BAD);
            x.rule(4, length, MAX).is(BAD);
        }
        x.rule(0, 0, 0).is(FULL);
    }

    private static void allThreeWrong() {
        Suite x = new Suite();
        for (int any : new int[] {-1, 512, MIN, MAX}) {
            x.rule(any, any, any).is(BAD);
            x.rule(any, any, 0).is(BAD);
            x.rule(any, 0, any).is(BAD);
            x.rule(0, any, any).is(BAD);
        }
        x.rules().is(0);
    }

    private static void dropOfEach() {
        for (int k = 0; k < 16; k++) {
            Suite x = new Suite();
            x.addIdleRules(16);
            x.drop(k).is(true);
            x.rules().is(65535 - (1 << k));
        }
    }

    private static void dropIsFelt() {
        Suite x = Suite.withWord("ab");
        x.add(1, 1);
        x.add(0, A, B);
        x.dueOfAB(true);
        x.drop(1).is(true);
        x.dueOfAB(false);
        x.add(0, 2, 3).is(1);
        x.add(2, A);
        x.add(3, B);
        x.dueInAllEngines(0, true);
        x.drop(2).is(true);
        x.dueInAllEngines(0, false);
        x.dueInAllEngines(2, false);
        x.shortest(0).is(NONE);
        x.shortest(3).is(1);
    }

    private static void dropOfNoneYet() {
        Suite x = new Suite();
        for (int k = 0; k < 16; k++) {
            x.drop(k).is(false);
        }
        x.rules().is(0);
    }

    private static void dropOfAGap() {
        Suite x = new Suite();
        x.addIdleRules(5);
        x.drop(5).is(false);
        x.drop(4).is(true);
        x.drop(4).is(false);
        x.drop(0).is(true);
        x.drop(0).is(false);
        x.rules().is(14);
    }

    private static void dropOfNoNumber() {
        Suite x = new Suite();
        for (int k : outside(15)) {
            x.drop(k).is(false);
        }
        x.addIdleRules(16);
        for (int k : outside(15)) {
            x.drop(k).is(false);
        }
        for (int k = 16; k < 80; k++) {
            x.drop(k).is(false);
            x.drop(15 - k).is(false);
        }
        x.rules().is(65535);
    }

    private static void rulesAreBits() {
        Suite x = new Suite();
        x.rules().is(0);
        for (int k = 0; k < 16; k++) {
            x.rule(k % 5, 0, 0);
            x.rules().is((2 << k) - 1);
        }
        for (int k = 0; k < 15; k++) {
            x.drop(k);
            x.rules().is(65536 - (2 << k));
        }
        x.drop(15);
        x.rules().is(0);
        x.rule(0, 0, 0);
        x.rules().is(1);
    }
}
