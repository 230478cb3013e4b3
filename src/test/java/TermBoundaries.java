/** The boundary cases of 'What it is', 'Terms' and promise 1. */
public final class TermBoundaries extends Check {
    public static void main(String[] args) {
        test("what it is: used for at most 512 calls: the last of them answers rightly too",
                TermBoundaries::lastOfAllCalls);
        test("what it is: 512 calls of rule and drop", TermBoundaries::onlyRuleAndDrop);
        test("what it is: 512 calls of write, the last 502 refused", TermBoundaries::onlyWrite);
        test("terms: kinds 0 .. 4: each of them can have rules and be a symbol",
                TermBoundaries::eachKind);
        test("terms: letters 0 .. 2: a letter makes just the list that has nothing but it",
                TermBoundaries::eachLetter);
        test("terms: a rule without symbols makes the empty list",
                TermBoundaries::ruleWithoutSymbols);
        test("terms: one from each, in their order", TermBoundaries::inTheirOrder);
        test("terms: and no other: what a kind needs itself for, it does not make",
                TermBoundaries::noOtherLists);
        test("terms: rules with numbers 0 .. 15: each number's rule counts",
                TermBoundaries::eachRuleNumber);
        test("terms: at most three symbols: each of the three counts",
                TermBoundaries::threeSymbols);
        test("terms: the stretch from i to j are the letters at the places i .. j - 1",
                TermBoundaries::placesOfAStretch);
        test("terms: engines 0 .. 4: no answer depends on it", TermBoundaries::eachEngine);
        test("1: no rules", TermBoundaries::noRules);
        test("1: and the empty word", TermBoundaries::emptyWord);
        test("1: an object is new though another one is not", TermBoundaries::besideAnother);
        end();
    }

    private static void lastOfAllCalls() {
        lastCall(x -> x.rule(3, 1, A), 6);
        lastCall(x -> x.drop(5), 1);
        lastCall(x -> x.rules(), 63);
        lastCall(x -> x.write(1), 7);
        lastCall(x -> x.cut(2), 4);
        for (int engine = 0; engine < 5; engine++) {
            int e = engine;
            lastCall(x -> x.makes(e, 0), 1);
            lastCall(x -> x.makes(e, 2), 0);
            lastCall(x -> x.stretch(e, 0, 1, 5), 1);
            lastCall(x -> x.stretch(e, 0, 1, 6), 0);
            lastCall(x -> x.agree(e, 4 - e), 1);
        }
        lastCall(x -> x.longest(0), 6);
        lastCall(x -> x.parts(4), 1);
        lastCall(x -> x.empty(), 1);
        lastCall(x -> x.able(), 21);
        lastCall(x -> x.first(4), 3);
        lastCall(x -> x.shortest(2), 2);
        lastCall(x -> x.count(4, 4), 16);
    }

    private static void onlyRuleAndDrop() {
        Suite x = new Suite();
        for (int k = 0; k < Suite.MOST_CALLS / 2; k++) {
            x.rule(k % 5, 0, 0).is(0);
            x.drop(0).is(true);
        }
    }

    private static void onlyWrite() {
        Suite x = new Suite();
        for (int k = 1; k <= Suite.MOST_CALLS; k++) {
            x.write(k % 3).is(k <= 10 ? k : FULL);
        }
    }

    private interface Call {
        Answer on(Suite x);
    }

    // Kind 0 makes a..ab..b with as many a as b, kind 4 every list of a and b but the empty one.
    private static void lastCall(Call call, int want) {
        Suite x = Suite.withWord("aaabbb");
        x.add(0, A, 0, B);
        x.add(0);
        x.add(4, A);
        x.add(4, B);
        x.add(4, 4, 4);
        x.add(2, C, C);
        while (x.calls() < Suite.MOST_CALLS - 8) {
            x.write(2).is(7);
            x.rule(1, 0, 0).is(6);
            x.makes(x.calls() % 5, 2).is(false);
            x.longest(4).is(6);
            x.drop(6).is(true);
            x.cut(1).is(6);
        }
        while (x.calls() < Suite.MOST_CALLS - 1) {
            x.rules().is(63);
        }
        call.on(x).is(want);
    }

    private static void eachKind() {
        for (int kind = 0; kind < 5; kind++) {
            Suite x = Suite.withWord("ab");
            int next = (kind + 1) % 5;
            x.add(next, A).is(0);
            x.add(kind, next, B).is(1);
            for (int other = 0; other < 5; other++) {
                x.dueInAllEngines(other, other == kind);
            }
        }
    }

    private static void eachLetter() {
        for (int letter = 0; letter < 3; letter++) {
            for (int written = 0; written < 3; written++) {
                Suite x = new Suite();
                x.add(3, A + letter);
                x.dueInAllEngines(3, false);
                x.write(written);
                x.dueInAllEngines(3, written == letter);
                x.write(letter);
                x.dueInAllEngines(3, false);
                x.count(3, 0).is(0);
                x.count(3, 1).is(1);
                x.count(3, 2).is(0);
            }
        }
    }

    private static void ruleWithoutSymbols() {
        for (int kind = 0; kind < 5; kind++) {
            Suite x = new Suite();
            x.rule(kind, 0, 0).is(0);
            x.dueInAllEngines(kind, true);
            x.write(0);
            x.dueInAllEngines(kind, false);
            for (int engine = 0; engine < 5; engine++) {
                x.stretch(engine, kind, 0, 0).is(true);
                x.stretch(engine, kind, 1, 1).is(true);
                x.stretch(engine, kind, 0, 1).is(false);
            }
            x.empty().is(1 << kind);
            x.able().is(1 << kind);
            x.first(kind).is(0);
            x.shortest(kind).is(0);
            x.count(kind, 0).is(1);
            x.count(kind, 1).is(0);
            x.longest(kind).is(0);
            x.parts(kind).is(NONE);
        }
    }

    private static void inTheirOrder() {
        for (String word : new String[] {"abc", "acb", "bac", "bca", "cab", "cba", "ab", "bc"}) {
            Suite x = Suite.withWord(word);
            x.add(0, A, 3, C);
            x.add(3, B);
            x.dueInAllEngines(0, word.equals("abc"));
        }
    }

    private static void noOtherLists() {
        Suite x = new Suite();
        x.add(0, 0);
        x.add(1, 2);
        x.add(2, 3);
        x.add(3, 1);
        x.add(4, 4, 4, 4);
        for (int kind = 0; kind < 5; kind++) {
            x.dueInAllEngines(kind, false);
            x.count(kind, 0).is(0);
            x.shortest(kind).is(NONE);
            x.longest(kind).is(NONE);
        }
        x.empty().is(0);
        x.able().is(0);
    }

    private static void eachRuleNumber() {
        for (int number = 0; number < 16; number++) {
            Suite x = Suite.withWord("ab");
            x.addIdleRules(16);
            x.drop(number).is(true);
            x.add(0, A, B).is(number);
            x.dueOfAB(true);
            x.drop(number).is(true);
            x.dueOfAB(false);
            x.rule(0, 0, 0).is(number);
            x.empty().is(1);
            x.count(0, 0).is(1);
        }
    }

    private static void threeSymbols() {
        for (String word : new String[] {"cab", "aab", "ccb", "caa", "ca", "cb", "ab", "cabb"}) {
            Suite x = Suite.withWord(word);
            x.add(4, C, A, B);
            x.dueInAllEngines(4, word.equals("cab"));
        }
    }

    private static void placesOfAStretch() {
        for (int engine = 0; engine < 5; engine++) {
            Suite x = Suite.ofAllLists(TEN);
            for (int i = 0; i < 10; i++) {
                for (int letter = 0; letter < 3; letter++) {
                    x.stretch(engine, 2 + letter, i, i + 1).is(TEN.charAt(i) == 'a' + letter);
                    x.stretch(engine, 2 + letter, i, i).is(false);
                }
            }
            x.add(1, A, B, C);
            for (int i = 0; i <= 7; i++) {
                x.stretch(engine, 1, i, i + 3).is(TEN.startsWith("abc", i));
            }
        }
    }

    private static void eachEngine() {
        for (int engine = 0; engine < 5; engine++) {
            Suite x = new Suite();
            x.addSixteenRules();
            x.spell("aacbbcabab");
            for (int i = 0; i <= 10; i++) {
                for (int j = i; j <= 10; j++) {
                    String part = "aacbbcabab".substring(i, j);
                    x.stretch(engine, 0, i, j).is(part.matches("c|acb|aacbb"));
                    x.stretch(engine, 1, i, j).is(false);
                    x.stretch(engine, 3, i, j).is(part.equals("b"));
                }
            }
        }
    }

    private static void noRules() {
        new Suite().rules().is(0);
        new Suite().rule(0, 0, 0).is(0);
        Suite x = new Suite();
        for (int k = 0; k < 16; k++) {
            x.drop(k).is(false);
        }
        x.empty().is(0);
        x.able().is(0);
        for (int kind = 0; kind < 5; kind++) {
            x.first(kind).is(0);
            x.shortest(kind).is(NONE);
            x.longest(kind).is(NONE);
            x.dueInAllEngines(kind, false);
            for (int n = 0; n <= 4; n++) {
                x.count(kind, n).is(0);
            }
        }
    }

    private static void emptyWord() {
        new Suite().cut(0).is(0);
        new Suite().cut(10).is(0);
        new Suite().write(2).is(1);
        Suite x = new Suite();
        x.add(2);
        x.dueInAllEngines(2, true);
        for (int kind = 0; kind < 5; kind++) {
            x.parts(kind).is(0);
            x.stretch(kind, 2, 0, 0).is(true);
            x.stretch(kind, 2, 0, 1).is(false);
            x.stretch(kind, 2, 1, 1).is(false);
        }
    }

    private static void besideAnother() {
        Suite old = new Suite();
        old.addSixteenRules();
        old.spell(TEN);
        Suite x = new Suite();
        x.rules().is(0);
        x.cut(0).is(0);
        x.write(0).is(1);
        x.rule(0, 0, 0).is(0);
        old.rules().is(65535);
        old.cut(0).is(10);
    }
}
