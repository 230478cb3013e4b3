import java.util.ArrayList;
import java.util.HashSet;
import java.util.List;
import java.util.Set;

/**
 * Long runs of calls on many grammars, beside a slow model that handles lists of letters as text.
 * The runs come from a fixed row of numbers, so they are the same every time.
 */
public final class SearchTests {
    private static final int BAD = -1;
    private static final int FULL = -2;
    private static final int NONE = -3;
    private static final int OBJECTS = 1500;
    private static final int CALLS = 500;
    private static final int LONGEST_SHORTEST = 243;

    private static long seed = 20240229L;
    private static int wrong = 0;

    private final GrammarSuite suite = new GrammarSuite();
    private final String[] rules = new String[16];
    private final int[] kinds = new int[16];
    private String word = "";
    private final StringBuilder history = new StringBuilder();

    // What the model has worked out for the rules and the word as they are; null when not yet.
    private List<Set<String>> ofWord;
    private List<Set<String>> ofFour;
    private List<Set<String>> ofOne;
    private int[] least;

    public static void main(String[] args) {
        for (int k = 0; k < OBJECTS && wrong == 0; k++) {
            new SearchTests().run(k);
        }
        System.out.println(wrong == 0 ? "all runs are as the model's" : "a run differs");
        if (wrong != 0) {
            System.exit(1);
        }
    }

    private static int pick(int n) {
        seed = seed * 6364136223846793005L + 1442695040888963407L;
        return (int) ((seed >>> 33) % n);
    }

    private static int pickAround(int low, int high) {
        if (pick(12) != 0) {
            return low + pick(high - low + 1);
        }
        int[] off = {low - 1, high + 1, Integer.MIN_VALUE, Integer.MAX_VALUE, low - 32, high + 32};
        return off[pick(off.length)];
    }

    private void run(int number) {
        int firstRules = pick(17);
        int lettersIn = 1 + pick(8);
        int kindsUsed = 1 + pick(5);
        for (int k = 0; k < firstRules; k++) {
            addRule(pick(kindsUsed), pick(4), kindsUsed, lettersIn);
        }
        int firstLetters = pick(11);
        for (int k = 0; k < firstLetters; k++) {
            write(pick(1 + pick(3)));
        }
        int calls = CALLS - firstRules - firstLetters;
        int everyChange = 2 + pick(60);
        for (int k = 0; k < calls && wrong == 0; k++) {
            if (pick(everyChange) == 0) {
                change(kindsUsed, lettersIn);
            } else {
                ask();
            }
        }
        if (wrong != 0) {
            System.out.println("in run " + number + ": " + history);
        }
    }

    private void change(int kindsUsed, int lettersIn) {
        switch (pick(6)) {
            case 0:
                addRule(pickAround(0, 4), pickAround(0, 3), kindsUsed, lettersIn);
                break;
            case 1:
                drop(pickAround(0, 15));
                break;
            case 2:
            case 3:
                write(pickAround(0, 2));
                break;
            case 4:
                cut(pick(2) == 0 ? pick(3) : pickAround(0, 10));
                break;
            default:
                check("rules()", suite.rules(), ruleBits());
                break;
        }
    }

    private void ask() {
        int kind = pickAround(0, 4);
        int engine = pickAround(0, 4);
        int size = word.length();
        switch (pick(11)) {
            case 0:
                check("makes(" + engine + ", " + kind + ")", suite.makes(engine, kind) ? 1 : 0,
                        isIn(kind, 5) && isIn(engine, 5) && ofWord(kind).contains(word) ? 1 : 0);
                break;
            case 1:
            case 2:
                askStretch(engine, kind, pickAround(0, size), pickAround(0, size));
                break;
            case 3:
                int other = pickAround(0, 4);
                check("agree(" + engine + ", " + other + ")", suite.agree(engine, other) ? 1 : 0,
                        isIn(engine, 5) && isIn(other, 5) ? 1 : 0);
                break;
            case 4:
                check("longest(" + kind + ")", suite.longest(kind), longest(kind));
                break;
            case 5:
                check("parts(" + kind + ")", suite.parts(kind), parts(kind));
                break;
            case 6:
                check("empty()", suite.empty(), empty());
                break;
            case 7:
                check("able()", suite.able(), able());
                break;
            case 8:
                check("first(" + kind + ")", suite.first(kind), first(kind));
                break;
            case 9:
                check("shortest(" + kind + ")", suite.shortest(kind), shortest(kind));
                break;
            default:
                int n = pickAround(0, 4);
                check("count(" + kind + ", " + n + ")", suite.count(kind, n), count(kind, n));
                break;
        }
    }

    private void askStretch(int engine, int kind, int from, int to) {
        int i = pick(8) == 0 ? from : Math.min(from, to);
        int j = pick(8) == 0 ? to : Math.max(from, to);
        boolean want = isIn(engine, 5) && isIn(kind, 5) && i >= 0 && i <= j && j <= word.length()
                && ofWord(kind).contains(word.substring(i, j));
        check("stretch(" + engine + ", " + kind + ", " + i + ", " + j + ")",
                suite.stretch(engine, kind, i, j) ? 1 : 0, want ? 1 : 0);
    }

    private void check(String call, int got, int want) {
        history.append(call).append(' ').append(got).append("; ");
        if (got != want) {
            wrong++;
            System.out.println(call + " answered " + got + ", due is " + want);
        }
    }

    private static boolean isIn(int n, int end) {
        return n >= 0 && n < end;
    }

    private void addRule(int kind, int length, int kindsUsed, int lettersIn) {
        StringBuilder rule = new StringBuilder();
        int symbols = 0;
        for (int d = 0; d < length && d < 3; d++) {
            int symbol = pick(8) < lettersIn ? 5 + pick(3) : pick(kindsUsed);
            rule.append(symbol);
            symbols |= symbol << 3 * d;
        }
        boolean spoilt = pick(20) == 0;
        if (spoilt) {
            symbols = pick(2) == 0 ? -1 - symbols : symbols + (1 << 3 * rule.length());
        }
        int want = FULL;
        if (!isIn(kind, 5) || !isIn(length, 4) || spoilt) {
            want = BAD;
        } else {
            for (int k = 15; k >= 0; k--) {
                want = rules[k] == null ? k : want;
            }
        }
        check("rule(" + kind + ", " + length + ", " + symbols + ")",
                suite.rule(kind, length, symbols), want);
        if (want >= 0) {
            rules[want] = rule.toString();
            kinds[want] = kind;
            forget();
        }
    }

    private void drop(int k) {
        boolean want = isIn(k, 16) && rules[k] != null;
        check("drop(" + k + ")", suite.drop(k) ? 1 : 0, want ? 1 : 0);
        if (want) {
            rules[k] = null;
            forget();
        }
    }

    private void write(int letter) {
        int want = !isIn(letter, 3) ? BAD : word.length() == 10 ? FULL : word.length() + 1;
        check("write(" + letter + ")", suite.write(letter), want);
        if (want >= 0) {
            word += (char) ('a' + letter);
            forget();
        }
    }

    private void cut(int n) {
        int want = isIn(n, 11) ? Math.max(0, word.length() - n) : BAD;
        check("cut(" + n + ")", suite.cut(n), want);
        if (want >= 0) {
            word = word.substring(0, want);
            forget();
        }
    }

    private void forget() {
        ofWord = null;
        ofFour = null;
        ofOne = null;
        least = null;
    }

    private int ruleBits() {
        int bits = 0;
        for (int k = 0; k < 16; k++) {
            bits += rules[k] == null ? 0 : 1 << k;
        }
        return bits;
    }

    private Set<String> ofWord(int kind) {
        if (ofWord == null) {
            Set<String> stretches = new HashSet<>();
            for (int i = 0; i <= word.length(); i++) {
                for (int j = i; j <= word.length(); j++) {
                    stretches.add(word.substring(i, j));
                }
            }
            ofWord = listsWithin(stretches, 10);
        }
        return ofWord.get(kind);
    }

    private int longest(int kind) {
        if (!isIn(kind, 5)) {
            return BAD;
        }
        int best = NONE;
        for (String list : ofWord(kind)) {
            best = Math.max(best, list.length());
        }
        return best;
    }

    private int parts(int kind) {
        if (!isIn(kind, 5)) {
            return BAD;
        }
        Set<String> ends = new HashSet<>();
        ends.add(word);
        for (int number = 0; number <= 10; number++) {
            if (ends.contains("")) {
                return number;
            }
            Set<String> next = new HashSet<>();
            for (String end : ends) {
                for (String list : ofWord(kind)) {
                    if (!list.isEmpty() && end.startsWith(list)) {
                        next.add(end.substring(list.length()));
                    }
                }
            }
            ends = next;
        }
        return NONE;
    }

    private int count(int kind, int n) {
        if (!isIn(kind, 5) || !isIn(n, 5)) {
            return BAD;
        }
        if (ofFour == null) {
            Set<String> upToFour = new HashSet<>();
            upToFour.add("");
            for (int length = 1; length <= 4; length++) {
                for (String list : new ArrayList<>(upToFour)) {
                    upToFour.add(list + "a");
                    upToFour.add(list + "b");
                    upToFour.add(list + "c");
                }
            }
            ofFour = listsWithin(upToFour, 4);
        }
        int made = 0;
        for (String list : ofFour.get(kind)) {
            made += list.length() == n ? 1 : 0;
        }
        return made;
    }

    private int first(int kind) {
        if (!isIn(kind, 5)) {
            return BAD;
        }
        if (ofOne == null) {
            ofOne = listsWithin(null, 1);
        }
        int bits = 0;
        for (String begin : ofOne.get(kind)) {
            bits |= begin.isEmpty() ? 0 : 1 << begin.charAt(0) - 'a';
        }
        return bits;
    }

    /**
     * The lists of the kinds, as far as they are within the set given: what parts of such a list
     * make is within it too. Without a set, only the beginnings up to the length given are kept.
     */
    private List<Set<String>> listsWithin(Set<String> within, int most) {
        List<Set<String>> made = new ArrayList<>();
        for (int s = 0; s < 8; s++) {
            made.add(new HashSet<>());
            String letter = s < 5 ? "" : String.valueOf((char) ('a' + s - 5));
            if (s >= 5 && (within == null || within.contains(letter))) {
                made.get(s).add(letter);
            }
        }
        boolean more = true;
        while (more) {
            more = false;
            for (int k = 0; k < 16; k++) {
                if (rules[k] != null) {
                    Set<String> lists = put(rules[k], made, within, most);
                    more |= made.get(kinds[k]).addAll(lists);
                }
            }
        }
        return made;
    }

    private static Set<String> put(String rule, List<Set<String>> made, Set<String> within, int most) {
        Set<String> lists = new HashSet<>();
        lists.add("");
        for (int d = 0; d < rule.length(); d++) {
            Set<String> next = new HashSet<>();
            for (String list : lists) {
                for (String behind : made.get(rule.charAt(d) - '0')) {
                    String both = list + behind;
                    if (within == null) {
                        next.add(both.length() > most ? both.substring(0, most) : both);
                    } else if (within.contains(both)) {
                        next.add(both);
                    }
                }
            }
            lists = next;
        }
        return lists;
    }

    private int empty() {
        int bits = 0;
        for (int kind = 0; kind < 5; kind++) {
            bits |= shortest(kind) == 0 ? 1 << kind : 0;
        }
        return bits;
    }

    private int able() {
        int bits = 0;
        for (int kind = 0; kind < 5; kind++) {
            bits |= shortest(kind) == NONE ? 0 : 1 << kind;
        }
        return bits;
    }

    private int shortest(int kind) {
        if (!isIn(kind, 5)) {
            return BAD;
        }
        if (least == null) {
            least = new int[] {NONE, NONE, NONE, NONE, NONE, 1, 1, 1};
            for (int length = 0; length <= LONGEST_SHORTEST; length++) {
                while (settlesOne(length)) {
                    continue;
                }
            }
        }
        return least[kind];
    }

    /** Whether a kind without a least length gets this one; all lesser ones are settled before. */
    private boolean settlesOne(int length) {
        for (int k = 0; k < 16; k++) {
            if (rules[k] != null && least[kinds[k]] == NONE) {
                int sum = 0;
                for (int d = 0; d < rules[k].length() && sum != NONE; d++) {
                    int part = least[rules[k].charAt(d) - '0'];
                    sum = part == NONE ? NONE : sum + part;
                }
                if (sum == length) {
                    least[kinds[k]] = length;
                    return true;
                }
            }
        }
        return false;
    }
}
