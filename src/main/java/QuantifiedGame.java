/**
 * A game of eight moves between two sides, under rules.
 *
 * Every question is asked of two things only: whether the rules in question hold for a list of
 * values (rulesHold) and whether we win from a start (weWin). These two are found out in one of
 * three ways; everything else is the same in all ways, so the way can show in no answer.
 */
public final class QuantifiedGame {
    public static final int BAD = -1;
    public static final int FULL = -2;
    public static final int NONE = -3;

    private static final int VARIABLES = 8;
    private static final int LISTS = 256;
    private static final int STARTS = 512;
    private static final int MOST_RULES = 12;

    private static final int WE = 0;
    private static final int THEY = 1;

    private static final int SOME = 0;
    private static final int PARITY = 1;
    private static final int AT_MOST = 2;
    private static final int EQUAL = 3;
    private static final int MOST_IN_PARITY = 4;
    private static final int MOST_IN_AT_MOST = 5;
    private static final int MOST_LIMIT = 4;

    private static final int BY_SEARCH = 0;
    private static final int BY_TABLE = 1;
    private static final int BY_WORDS = 2;

    private static final int WORDS = 4;
    private static final int COLUMN_WORDS = 32;
    private static final int COUNTS = 9;
    private static final int WORD_VARIABLES = 6;
    private static final int WORD_MASK = 63;

    private final int[] owners = new int[VARIABLES];
    private final int[] kinds = new int[MOST_RULES];
    private final int[] firstSets = new int[MOST_RULES];
    private final int[] seconds = new int[MOST_RULES];
    private int ruleCount;
    private int chosenWay;

    // The rules that the question at hand is about; blame and needless ask about some of them only.
    private int asked;

    // How many variables a set has: a lookup, because rules are tested at the bottom of the calls.
    private final int[] sizes = new int[LISTS];

    // Way 1: whether we win from the start (k, values), at 2^k + values.
    private final boolean[] wonAt = new boolean[STARTS];

    // Way 2: sets of lists of values, list n being bit n % 64 of word n / 64.
    private final long[] columns = new long[COLUMN_WORDS];
    private final long[] holding = new long[WORDS];
    private final long[] folded = new long[WORDS];
    private final long[] atLeast = new long[COUNTS];

    public QuantifiedGame() {
        ruleCount = 0;
        asked = 0;
        chosenWay = BY_WORDS;
        for (int v = 0; v < VARIABLES; v++) {
            owners[v] = WE;
        }
        fillSizes();
        fillColumns();
    }

    public boolean give(int v, int side) {
        if (v < 0 || v >= VARIABLES || side < WE || side > THEY) {
            return false;
        }
        owners[v] = side;
        return true;
    }

    public int rule(int kind, int p, int q) {
        if (ruleCount >= MOST_RULES) {
            return FULL;
        }
        if (!isRule(kind, p, q)) {
            return BAD;
        }
        kinds[ruleCount] = kind;
        firstSets[ruleCount] = p;
        seconds[ruleCount] = q;
        ruleCount++;
        return ruleCount;
    }

    public int drop(int i) {
        if (i < 0 || i >= ruleCount) {
            return BAD;
        }
        for (int r = i; r < ruleCount - 1; r++) {
            kinds[r] = kinds[r + 1];
            firstSets[r] = firstSets[r + 1];
            seconds[r] = seconds[r + 1];
        }
        ruleCount--;
        return ruleCount;
    }

    public boolean holds(int values) {
        if (!isSet(values)) {
            return false;
        }
        askAll();
        return rulesHold(values);
    }

    public int won(int k, int values) {
        if (!isStart(k, values)) {
            return BAD;
        }
        askAll();
        return weWin(k, values) ? 1 : 0;
    }

    public int move(int k, int values) {
        if (k == VARIABLES || !isStart(k, values)) {
            return BAD;
        }
        askAll();
        return choice(k, values);
    }

    public int count() {
        askAll();
        return holdingLists();
    }

    public int idle() {
        askAll();
        int set = 0;
        for (int v = 0; v < VARIABLES; v++) {
            if (isIdle(v)) {
                set |= 1 << v;
            }
        }
        return set;
    }

    public int openings() {
        askAll();
        int k = firstRun();
        int found = 0;
        for (int values = 0; values < 1 << k; values++) {
            if (weWin(k, values)) {
                found++;
            }
        }
        return found;
    }

    public int blame() {
        int kept = allRules();
        if (weWinUnder(kept)) {
            return 0;
        }
        for (int i = 0; i < ruleCount; i++) {
            int fewer = kept & ~(1 << i);
            if (!weWinUnder(fewer)) {
                kept = fewer;
            }
        }
        return kept;
    }

    public int decided() {
        askAll();
        int values = 0;
        for (int k = 0; k < VARIABLES; k++) {
            if (isDecided(k, values)) {
                return k;
            }
            // NONE counts as 0 here, so only a 1 changes the values.
            if (choice(k, values) == 1) {
                values |= 1 << k;
            }
        }
        return VARIABLES;
    }

    public int needless() {
        askAll();
        int withAll = holdingLists();
        int all = allRules();
        int set = 0;
        for (int i = 0; i < ruleCount; i++) {
            ask(all & ~(1 << i));
            // Without a rule no list is lost, so equal numbers mean equal lists.
            if (holdingLists() == withAll) {
                set |= 1 << i;
            }
        }
        return set;
    }

    public boolean way(int k) {
        if (k < BY_SEARCH || k > BY_WORDS) {
            return false;
        }
        chosenWay = k;
        return true;
    }

    private static boolean isSet(int n) {
        return n >= 0 && n < LISTS;
    }

    private static boolean isStart(int k, int values) {
        return k >= 0 && k <= VARIABLES && values >= 0 && values < 1 << k;
    }

    private boolean isRule(int kind, int p, int q) {
        if (!isSet(p)) {
            return false;
        }
        switch (kind) {
            case SOME:
                return isSet(q);
            case PARITY:
                return q >= 0 && q <= 1 && sizes[p] <= MOST_IN_PARITY;
            case AT_MOST:
                return q >= 0 && q <= MOST_LIMIT && sizes[p] <= MOST_IN_AT_MOST;
            case EQUAL:
                return true;
            default:
                return false;
        }
    }

    private int allRules() {
        return (1 << ruleCount) - 1;
    }

    private void askAll() {
        int all = allRules();
        ask(all);
    }

    // Comes before rulesHold and weWin: they answer for the rules named here.
    private void ask(int rules) {
        asked = rules;
        if (chosenWay == BY_TABLE) {
            fillTable();
        } else if (chosenWay == BY_WORDS) {
            fillHolding();
        }
    }

    private boolean rulesHold(int values) {
        switch (chosenWay) {
            case BY_SEARCH:
                return holdOneByOne(values);
            case BY_TABLE:
                return wonAt[LISTS + values];
            default:
                return (holding[values >> WORD_VARIABLES] >>> (values & WORD_MASK) & 1L) == 1L;
        }
    }

    private boolean weWin(int k, int values) {
        switch (chosenWay) {
            case BY_SEARCH:
                return winBySearch(k, values);
            case BY_TABLE:
                return wonAt[(1 << k) + values];
            default:
                return winByWords(k, values);
        }
    }

    private boolean weWinUnder(int rules) {
        ask(rules);
        return weWin(0, 0);
    }

    private int choice(int k, int values) {
        boolean forUs = owners[k] == WE;
        if (weWin(k + 1, values) == forUs) {
            return 0;
        }
        if (weWin(k + 1, values | (1 << k)) == forUs) {
            return 1;
        }
        return NONE;
    }

    private int holdingLists() {
        int found = 0;
        for (int values = 0; values < LISTS; values++) {
            if (rulesHold(values)) {
                found++;
            }
        }
        return found;
    }

    private boolean isIdle(int v) {
        for (int values = 0; values < LISTS; values++) {
            if (rulesHold(values) != rulesHold(values ^ (1 << v))) {
                return false;
            }
        }
        return true;
    }

    private int firstRun() {
        int k = 1;
        while (k < VARIABLES && owners[k] == owners[0]) {
            k++;
        }
        return k;
    }

    private boolean isDecided(int k, int values) {
        boolean first = rulesHold(values);
        for (int rest = 1; rest < LISTS >> k; rest++) {
            if (rulesHold(values | (rest << k)) != first) {
                return false;
            }
        }
        return true;
    }

    private void fillSizes() {
        sizes[0] = 0;
        for (int set = 1; set < LISTS; set++) {
            sizes[set] = sizes[set >> 1] + (set & 1);
        }
    }

    private boolean holdOneByOne(int values) {
        for (int i = 0; i < ruleCount; i++) {
            if ((asked >> i & 1) == 1 && !ruleHolds(i, values)) {
                return false;
            }
        }
        return true;
    }

    private boolean ruleHolds(int i, int values) {
        int p = firstSets[i];
        int q = seconds[i];
        int ones = values & p;
        switch (kinds[i]) {
            case SOME:
                return ones != 0 || (~values & q) != 0;
            case PARITY:
                return (sizes[ones] & 1) == q;
            case AT_MOST:
                return sizes[ones] <= q;
            default:
                return ones == 0 || ones == p;
        }
    }

    // Plays the game through, each variable first with 0. At the end of a game it goes back to the
    // last variable whose owner lost with 0 and has not tried 1; where the owner won with 0, or 1
    // has been tried, what came out stands for the start before that variable too.
    private boolean winBySearch(int k, int values) {
        int played = values;
        boolean ours = false;
        for (int games = 0; games < LISTS; games++) {
            ours = holdOneByOne(played);
            int v = VARIABLES - 1;
            while (v >= k && ((played >> v & 1) == 1 || ours == (owners[v] == WE))) {
                played &= ~(1 << v);
                v--;
            }
            if (v < k) {
                return ours;
            }
            played |= 1 << v;
        }
        return ours;
    }

    private void fillTable() {
        for (int values = 0; values < LISTS; values++) {
            wonAt[LISTS + values] = holdOneByOne(values);
        }
        for (int k = VARIABLES - 1; k >= 0; k--) {
            int here = 1 << k;
            for (int values = 0; values < here; values++) {
                boolean withZero = wonAt[2 * here + values];
                boolean withOne = wonAt[2 * here + here + values];
                wonAt[here + values] = owners[k] == WE ? withZero || withOne : withZero && withOne;
            }
        }
    }

    private void fillColumns() {
        for (int v = 0; v < VARIABLES; v++) {
            for (int values = 0; values < LISTS; values++) {
                if ((values >> v & 1) == 1) {
                    columns[v * WORDS + (values >> WORD_VARIABLES)] |= 1L << (values & WORD_MASK);
                }
            }
        }
    }

    private void fillHolding() {
        for (int w = 0; w < WORDS; w++) {
            long lists = -1L;
            for (int i = 0; i < ruleCount; i++) {
                if ((asked >> i & 1) == 1) {
                    lists &= ruleWord(i, w);
                }
            }
            holding[w] = lists;
        }
    }

    private long ruleWord(int i, int w) {
        int p = firstSets[i];
        int q = seconds[i];
        switch (kinds[i]) {
            case SOME:
                return withAtLeast(1, p, w) | ~withAtLeast(sizes[q], q, w);
            case PARITY:
                return q == 1 ? withOddNumber(p, w) : ~withOddNumber(p, w);
            case AT_MOST:
                return ~withAtLeast(q + 1, p, w);
            default:
                return withAtLeast(sizes[p], p, w) | ~withAtLeast(1, p, w);
        }
    }

    // The lists in which at least n variables of the set are 1.
    private long withAtLeast(int n, int set, int w) {
        atLeast[0] = -1L;
        for (int c = 1; c <= VARIABLES; c++) {
            atLeast[c] = 0L;
        }
        for (int v = 0; v < VARIABLES; v++) {
            if ((set >> v & 1) == 1) {
                // Downwards, so that one variable is not counted twice.
                for (int c = VARIABLES; c >= 1; c--) {
                    atLeast[c] |= atLeast[c - 1] & columns[v * WORDS + w];
                }
            }
        }
        return atLeast[n];
    }

    private long withOddNumber(int set, int w) {
        long lists = 0L;
        for (int v = 0; v < VARIABLES; v++) {
            if ((set >> v & 1) == 1) {
                lists ^= columns[v * WORDS + w];
            }
        }
        return lists;
    }

    private boolean winByWords(int k, int values) {
        for (int w = 0; w < WORDS; w++) {
            folded[w] = holding[w];
        }
        for (int v = VARIABLES - 1; v >= k; v--) {
            if (v >= WORD_VARIABLES) {
                foldWords(1 << (v - WORD_VARIABLES), owners[v] == WE);
            } else {
                foldBits(1 << v, owners[v] == WE);
            }
        }
        return (folded[values >> WORD_VARIABLES] >>> (values & WORD_MASK) & 1L) == 1L;
    }

    private void foldWords(int half, boolean forUs) {
        for (int w = 0; w < half; w++) {
            long withOne = folded[w + half];
            folded[w] = forUs ? folded[w] | withOne : folded[w] & withOne;
        }
    }

    // Only the lower half of the bits means something afterwards, and only it is read.
    private void foldBits(int half, boolean forUs) {
        long withOne = folded[0] >>> half;
        folded[0] = forUs ? folded[0] | withOne : folded[0] & withOne;
    }
}
