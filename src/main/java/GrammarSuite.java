/**
 * Finds out which stretches of a word the rules of a small grammar can make, in five ways, which
 * all find the same.
 *
 * <p>Every way fills a table with a cell for each stretch: the cell from i to j stands at
 * i * PLACES + j and has bit s for each symbol s that makes the stretch. Nothing that is found is
 * kept from one call to the next, so no change of rules or word can leave an old answer behind.
 */
public final class GrammarSuite {
    public static final int BAD = -1;
    public static final int FULL = -2;
    public static final int NONE = -3;

    private static final int KINDS = 5;
    private static final int LETTERS = 3;
    private static final int SYMBOLS = KINDS + LETTERS;
    private static final int KIND_BITS = 31;
    private static final int LETTER_BITS = 224;
    private static final int ENGINES = 5;

    private static final int MOST_RULES = 16;
    private static final int MOST_SYMBOLS = 3;
    private static final int BITS_OF_SYMBOL = 3;
    private static final int SYMBOL_MASK = 7;

    private static final int MOST_LETTERS = 10;
    private static final int MOST_COUNTED = 4;
    private static final int PLACES = MOST_LETTERS + 1;
    private static final int CELLS = PLACES * PLACES;

    private static final int REACHES = SYMBOLS * PLACES;
    // A rule of three symbols can stand at four points: before each symbol and behind the last.
    private static final int POINTS = MOST_SYMBOLS + 1;
    private static final int POINTS_OF_ALL = MOST_RULES * POINTS;
    private static final int STARTS = POINTS_OF_ALL * PLACES;
    private static final int ITEMS = POINTS_OF_ALL * CELLS;

    // Each round but the last finds something new, so there is at most one round more than there
    // are things to find: a kind for a stretch (the cells are more than the stretches) in the first
    // bound, a start for a point behind a symbol at one place in the second.
    private static final int ROUNDS = KINDS * CELLS;
    private static final int ROUNDS_AT_PLACE = POINTS_OF_ALL * PLACES;
    // What rules hand on from symbol to kind needs no more steps than there are kinds, because a
    // way that comes by a kind twice can be cut short.
    private static final int KIND_ROUNDS = KINDS;

    private int ruleSet = 0;
    private final int[] ruleKind = new int[MOST_RULES];
    private final int[] ruleLength = new int[MOST_RULES];
    private final int[] ruleSymbols = new int[MOST_RULES];

    private int wordLength = 0;
    private final int[] word = new int[MOST_LETTERS];

    private final int[] found = new int[CELLS];
    private final int[] foundByOther = new int[CELLS];
    private final int[] singles = new int[SYMBOLS];
    private final int[] starts = new int[STARTS];
    private final int[] reach = new int[REACHES];
    private final int[] agenda = new int[ITEMS];
    private final boolean[] listed = new boolean[ITEMS];
    private int agendaSize = 0;

    private final int[] fewest = new int[PLACES];
    private final int[] begins = new int[SYMBOLS];
    private final int[] least = new int[SYMBOLS];
    private final int[] list = new int[MOST_COUNTED];

    public GrammarSuite() {
    }

    public int rule(int kind, int length, int symbols) {
        if (!isKind(kind) || length < 0 || length > MOST_SYMBOLS) {
            return BAD;
        }
        if (symbols < 0 || symbols >= 1 << BITS_OF_SYMBOL * length) {
            return BAD;
        }
        for (int k = 0; k < MOST_RULES; k++) {
            if (!hasRule(k)) {
                ruleSet |= 1 << k;
                ruleKind[k] = kind;
                ruleLength[k] = length;
                ruleSymbols[k] = symbols;
                return k;
            }
        }
        return FULL;
    }

    public boolean drop(int k) {
        if (k < 0 || k >= MOST_RULES || !hasRule(k)) {
            return false;
        }
        ruleSet &= ~(1 << k);
        return true;
    }

    public int rules() {
        return ruleSet;
    }

    public int write(int letter) {
        if (letter < 0 || letter >= LETTERS) {
            return BAD;
        }
        if (wordLength >= MOST_LETTERS) {
            return FULL;
        }
        word[wordLength] = letter;
        wordLength++;
        return wordLength;
    }

    public int cut(int n) {
        if (n < 0 || n > MOST_LETTERS) {
            return BAD;
        }
        wordLength = n < wordLength ? wordLength - n : 0;
        return wordLength;
    }

    public boolean makes(int engine, int kind) {
        if (!isEngine(engine) || !isKind(kind)) {
            return false;
        }
        fill(engine, found);
        return (found[wordLength] >> kind & 1) != 0;
    }

    public boolean stretch(int engine, int kind, int i, int j) {
        if (!isEngine(engine) || !isKind(kind) || i < 0 || j < i || j > wordLength) {
            return false;
        }
        fill(engine, found);
        return (found[i * PLACES + j] >> kind & 1) != 0;
    }

    public boolean agree(int engine, int other) {
        if (!isEngine(engine) || !isEngine(other)) {
            return false;
        }
        fill(engine, found);
        fill(other, foundByOther);
        for (int i = 0; i <= wordLength; i++) {
            for (int j = i; j <= wordLength; j++) {
                int cell = i * PLACES + j;
                if (((found[cell] ^ foundByOther[cell]) & KIND_BITS) != 0) {
                    return false;
                }
            }
        }
        return true;
    }

    public int longest(int kind) {
        if (!isKind(kind)) {
            return BAD;
        }
        byLength(word, wordLength, found);
        int best = NONE;
        for (int i = 0; i <= wordLength; i++) {
            for (int j = i; j <= wordLength; j++) {
                if ((found[i * PLACES + j] >> kind & 1) != 0 && j - i > best) {
                    best = j - i;
                }
            }
        }
        return best;
    }

    public int parts(int kind) {
        if (!isKind(kind)) {
            return BAD;
        }
        byLength(word, wordLength, found);
        fewest[0] = 0;
        for (int j = 1; j <= wordLength; j++) {
            fewest[j] = fewestUpTo(j, kind);
        }
        return fewest[wordLength];
    }

    public int empty() {
        return kindsMadeFrom(0);
    }

    public int able() {
        return kindsMadeFrom(LETTER_BITS);
    }

    public int first(int kind) {
        if (!isKind(kind)) {
            return BAD;
        }
        int empty = kindsMadeFrom(0);
        int able = kindsMadeFrom(LETTER_BITS) | LETTER_BITS;
        for (int s = 0; s < SYMBOLS; s++) {
            begins[s] = s < KINDS ? 0 : 1 << s - KINDS;
        }
        for (int round = 0; round < KIND_ROUNDS; round++) {
            for (int r = 0; r < MOST_RULES; r++) {
                // A rule with a symbol that makes nothing makes nothing, whatever stands before it.
                if (hasRule(r) && isWithin(r, able)) {
                    begins[ruleKind[r]] |= beginsOfRule(r, empty);
                }
            }
        }
        return begins[kind];
    }

    public int shortest(int kind) {
        if (!isKind(kind)) {
            return BAD;
        }
        for (int s = 0; s < SYMBOLS; s++) {
            least[s] = s < KINDS ? NONE : 1;
        }
        for (int round = 0; round < KIND_ROUNDS; round++) {
            for (int r = 0; r < MOST_RULES; r++) {
                if (hasRule(r)) {
                    int length = leastOfRule(r);
                    int known = least[ruleKind[r]];
                    if (length != NONE && (known == NONE || length < known)) {
                        least[ruleKind[r]] = length;
                    }
                }
            }
        }
        return least[kind];
    }

    public int count(int kind, int n) {
        if (!isKind(kind) || n < 0 || n > MOST_COUNTED) {
            return BAD;
        }
        int lists = 1;
        for (int d = 0; d < n; d++) {
            lists *= LETTERS;
        }
        int made = 0;
        for (int number = 0; number < lists; number++) {
            spell(number, n);
            byLength(list, n, found);
            made += found[n] >> kind & 1;
        }
        return made;
    }

    private static boolean isKind(int kind) {
        return kind >= 0 && kind < KINDS;
    }

    private static boolean isEngine(int engine) {
        return engine >= 0 && engine < ENGINES;
    }

    private boolean hasRule(int r) {
        return (ruleSet >> r & 1) != 0;
    }

    private int symbolAt(int r, int d) {
        return ruleSymbols[r] >> BITS_OF_SYMBOL * d & SYMBOL_MASK;
    }

    private void fill(int engine, int[] table) {
        switch (engine) {
            case 0:
                byRounds(word, wordLength, table);
                break;
            case 1:
                byLength(word, wordLength, table);
                break;
            case 2:
                leftToRight(word, wordLength, table);
                break;
            case 3:
                byReach(word, wordLength, table);
                break;
            default:
                byAgenda(word, wordLength, table);
                break;
        }
    }

    private static void putLetters(int[] text, int size, int[] table) {
        for (int cell = 0; cell < CELLS; cell++) {
            table[cell] = 0;
        }
        for (int i = 0; i < size; i++) {
            table[i * PLACES + i + 1] = 1 << KINDS + text[i];
        }
    }

    // Engine 0: tries every rule on every stretch, again and again until a round finds no more.
    private void byRounds(int[] text, int size, int[] table) {
        putLetters(text, size, table);
        boolean more = true;
        for (int round = 0; round < ROUNDS && more; round++) {
            more = false;
            for (int i = 0; i <= size; i++) {
                for (int j = i; j <= size; j++) {
                    int cell = i * PLACES + j;
                    int known = table[cell];
                    int made = kindsFitting(i, j, table);
                    table[cell] = known | made;
                    more = more || (made & ~known) != 0;
                }
            }
        }
    }

    private int kindsFitting(int i, int j, int[] table) {
        int kinds = 0;
        for (int r = 0; r < MOST_RULES; r++) {
            if (hasRule(r) && fits(r, i, j, table)) {
                kinds |= 1 << ruleKind[r];
            }
        }
        return kinds;
    }

    private boolean fits(int r, int i, int j, int[] table) {
        int a = symbolAt(r, 0);
        int b = symbolAt(r, 1);
        int c = symbolAt(r, 2);
        switch (ruleLength[r]) {
            case 0:
                return i == j;
            case 1:
                return (table[i * PLACES + j] >> a & 1) != 0;
            case 2:
                return pairFits(a, b, i, j, table);
            default:
                for (int m = i; m <= j; m++) {
                    boolean begun = (table[i * PLACES + m] >> a & 1) != 0;
                    if (begun && pairFits(b, c, m, j, table)) {
                        return true;
                    }
                }
                return false;
        }
    }

    private static boolean pairFits(int a, int b, int i, int j, int[] table) {
        for (int m = i; m <= j; m++) {
            int both = table[i * PLACES + m] >> a & table[m * PLACES + j] >> b;
            if ((both & 1) != 0) {
                return true;
            }
        }
        return false;
    }

    // Engine 1: from short stretches to long ones, each once. A stretch that isn't empty is put
    // together from shorter ones, or it comes whole from one symbol while all beside that symbol
    // make the empty list; the second case is worked out for all stretches before.
    private void byLength(int[] text, int size, int[] table) {
        putLetters(text, size, table);
        int empty = kindsMadeFrom(0);
        findSingles(empty);
        for (int i = 0; i <= size; i++) {
            table[i * PLACES + i] = empty;
        }
        for (int length = 1; length <= size; length++) {
            for (int i = 0; i + length <= size; i++) {
                int cell = i * PLACES + i + length;
                int made = kindsFitting(i, i + length, table);
                table[cell] = withSingles(table[cell] | made);
            }
        }
    }

    // singles[s] becomes s and the kinds that make all that s makes by rules in which every other
    // symbol makes the empty list.
    private void findSingles(int empty) {
        for (int s = 0; s < SYMBOLS; s++) {
            singles[s] = 1 << s;
        }
        for (int round = 0; round < KIND_ROUNDS; round++) {
            for (int point = 0; point < POINTS_OF_ALL; point++) {
                int r = point / POINTS;
                int d = point % POINTS;
                if (hasRule(r) && d < ruleLength[r] && othersAreWithin(r, d, empty)) {
                    handUp(r, d);
                }
            }
        }
    }

    private void handUp(int r, int d) {
        int from = symbolAt(r, d);
        for (int s = 0; s < SYMBOLS; s++) {
            if ((singles[s] >> from & 1) != 0) {
                singles[s] |= 1 << ruleKind[r];
            }
        }
    }

    private boolean othersAreWithin(int r, int d, int symbols) {
        for (int e = 0; e < ruleLength[r]; e++) {
            int symbol = symbolAt(r, e);
            if (e != d && (symbols >> symbol & 1) == 0) {
                return false;
            }
        }
        return true;
    }

    private int withSingles(int symbols) {
        int all = 0;
        for (int s = 0; s < SYMBOLS; s++) {
            if ((symbols >> s & 1) != 0) {
                all |= singles[s];
            }
        }
        return all;
    }

    // Engine 2: reads the word once. For each place and each point of a rule, starts has the
    // places from which the symbols before the point make the stretch up to this place.
    private void leftToRight(int[] text, int size, int[] table) {
        putLetters(text, size, table);
        for (int p = 0; p <= size; p++) {
            beginRulesAt(p);
            if (p > 0) {
                passSymbol(KINDS + text[p - 1], p - 1, p);
            }
            boolean more = true;
            for (int round = 0; round < ROUNDS_AT_PLACE && more; round++) {
                more = passFinished(p);
            }
            tellFinished(p, table);
        }
    }

    private void beginRulesAt(int p) {
        for (int point = 0; point < POINTS_OF_ALL; point++) {
            starts[p * POINTS_OF_ALL + point] = 0;
        }
        for (int r = 0; r < MOST_RULES; r++) {
            if (hasRule(r)) {
                starts[p * POINTS_OF_ALL + r * POINTS] = 1 << p;
            }
        }
    }

    private boolean passFinished(int p) {
        boolean more = false;
        for (int r = 0; r < MOST_RULES; r++) {
            int behindLast = p * POINTS_OF_ALL + r * POINTS + ruleLength[r];
            for (int from = 0; from <= p; from++) {
                if ((starts[behindLast] >> from & 1) != 0) {
                    boolean passed = passSymbol(ruleKind[r], from, p);
                    more = more || passed;
                }
            }
        }
        return more;
    }

    // Moves every rule that waits for the symbol at place from over it to place p.
    private boolean passSymbol(int symbol, int from, int p) {
        boolean more = false;
        for (int r = 0; r < MOST_RULES; r++) {
            for (int d = 0; d < ruleLength[r]; d++) {
                int awaited = symbolAt(r, d);
                int before = starts[from * POINTS_OF_ALL + r * POINTS + d];
                int behind = p * POINTS_OF_ALL + r * POINTS + d + 1;
                if (awaited == symbol && (before & ~starts[behind]) != 0) {
                    starts[behind] |= before;
                    more = true;
                }
            }
        }
        return more;
    }

    private void tellFinished(int p, int[] table) {
        for (int r = 0; r < MOST_RULES; r++) {
            int behindLast = p * POINTS_OF_ALL + r * POINTS + ruleLength[r];
            for (int from = 0; from <= p; from++) {
                if ((starts[behindLast] >> from & 1) != 0) {
                    table[from * PLACES + p] |= 1 << ruleKind[r];
                }
            }
        }
    }

    // Engine 3: takes each symbol as a relation between places. reach has, for a symbol and the
    // place where it starts, the places where it can end; a rule joins those of its symbols.
    private void byReach(int[] text, int size, int[] table) {
        putLetters(text, size, table);
        for (int row = 0; row < REACHES; row++) {
            reach[row] = 0;
        }
        for (int i = 0; i < size; i++) {
            reach[(KINDS + text[i]) * PLACES + i] = 1 << i + 1;
        }
        boolean more = true;
        for (int round = 0; round < ROUNDS && more; round++) {
            more = widenReach(size);
        }
        for (int kind = 0; kind < KINDS; kind++) {
            tellReach(kind, size, table);
        }
    }

    private boolean widenReach(int size) {
        boolean more = false;
        for (int r = 0; r < MOST_RULES; r++) {
            if (hasRule(r)) {
                for (int i = 0; i <= size; i++) {
                    int ends = endsOfRule(r, i, size);
                    int row = ruleKind[r] * PLACES + i;
                    more = more || (ends & ~reach[row]) != 0;
                    reach[row] |= ends;
                }
            }
        }
        return more;
    }

    private int endsOfRule(int r, int i, int size) {
        int ends = 1 << i;
        for (int d = 0; d < ruleLength[r]; d++) {
            int symbol = symbolAt(r, d);
            int next = 0;
            for (int m = i; m <= size; m++) {
                if ((ends >> m & 1) != 0) {
                    next |= reach[symbol * PLACES + m];
                }
            }
            ends = next;
        }
        return ends;
    }

    private void tellReach(int kind, int size, int[] table) {
        for (int i = 0; i <= size; i++) {
            for (int j = i; j <= size; j++) {
                if ((reach[kind * PLACES + i] >> j & 1) != 0) {
                    table[i * PLACES + j] |= 1 << kind;
                }
            }
        }
    }

    // Engine 4: keeps an agenda of items, each a point of a rule with the stretch that the symbols
    // before it make, and follows up every item once, in the order in which they are found.
    private void byAgenda(int[] text, int size, int[] table) {
        putLetters(text, size, table);
        beginAgenda(size);
        for (int next = 0; next < ITEMS && next < agendaSize; next++) {
            int cell = agenda[next] % CELLS;
            int point = agenda[next] / CELLS;
            int r = point / POINTS;
            if (point % POINTS == ruleLength[r]) {
                finish(ruleKind[r], cell, table);
            } else {
                goOn(point, cell, size, table);
            }
        }
    }

    private void beginAgenda(int size) {
        agendaSize = 0;
        for (int item = 0; item < ITEMS; item++) {
            listed[item] = false;
        }
        for (int r = 0; r < MOST_RULES; r++) {
            if (hasRule(r)) {
                for (int i = 0; i <= size; i++) {
                    listItem(r * POINTS, i, i);
                }
            }
        }
    }

    private void listItem(int point, int i, int j) {
        int item = point * CELLS + i * PLACES + j;
        // Each item is listed once at the most, so the agenda has a place for all of them.
        if (!listed[item] && agendaSize < ITEMS) {
            listed[item] = true;
            agenda[agendaSize] = item;
            agendaSize++;
        }
    }

    private void goOn(int point, int cell, int size, int[] table) {
        int i = cell / PLACES;
        int m = cell % PLACES;
        int symbol = symbolAt(point / POINTS, point % POINTS);
        for (int j = m; j <= size; j++) {
            if ((table[m * PLACES + j] >> symbol & 1) != 0) {
                listItem(point + 1, i, j);
            }
        }
    }

    // The items that came before and wait for this kind were followed up too early to see it.
    private void finish(int kind, int cell, int[] table) {
        if ((table[cell] >> kind & 1) != 0) {
            return;
        }
        table[cell] |= 1 << kind;
        int m = cell / PLACES;
        int j = cell % PLACES;
        for (int point = 0; point < POINTS_OF_ALL; point++) {
            int r = point / POINTS;
            int d = point % POINTS;
            int awaited = symbolAt(r, d);
            if (d < ruleLength[r] && awaited == kind) {
                goOnWaiting(point, m, j);
            }
        }
    }

    private void goOnWaiting(int point, int m, int j) {
        for (int i = 0; i <= m; i++) {
            if (listed[point * CELLS + i * PLACES + m]) {
                listItem(point + 1, i, j);
            }
        }
    }

    private int fewestUpTo(int j, int kind) {
        int best = NONE;
        for (int i = 0; i < j; i++) {
            boolean made = (found[i * PLACES + j] >> kind & 1) != 0;
            if (made && fewest[i] != NONE && (best == NONE || fewest[i] + 1 < best)) {
                best = fewest[i] + 1;
            }
        }
        return best;
    }

    // The kinds that rules build up when the symbols given are there to begin with.
    private int kindsMadeFrom(int given) {
        int known = given;
        for (int round = 0; round < KIND_ROUNDS; round++) {
            for (int r = 0; r < MOST_RULES; r++) {
                if (hasRule(r) && isWithin(r, known)) {
                    known |= 1 << ruleKind[r];
                }
            }
        }
        return known & KIND_BITS;
    }

    private boolean isWithin(int r, int symbols) {
        for (int d = 0; d < ruleLength[r]; d++) {
            int symbol = symbolAt(r, d);
            if ((symbols >> symbol & 1) == 0) {
                return false;
            }
        }
        return true;
    }

    private int beginsOfRule(int r, int empty) {
        int letters = 0;
        for (int d = 0; d < ruleLength[r]; d++) {
            int symbol = symbolAt(r, d);
            letters |= begins[symbol];
            if ((empty >> symbol & 1) == 0) {
                break;
            }
        }
        return letters;
    }

    private int leastOfRule(int r) {
        int length = 0;
        for (int d = 0; d < ruleLength[r]; d++) {
            int symbol = symbolAt(r, d);
            if (least[symbol] == NONE) {
                return NONE;
            }
            length += least[symbol];
        }
        return length;
    }

    private void spell(int number, int n) {
        int rest = number;
        for (int d = 0; d < n; d++) {
            list[d] = rest % LETTERS;
            rest /= LETTERS;
        }
    }
}
