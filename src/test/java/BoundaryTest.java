import java.util.function.ToIntFunction;

/**
 * One test for each sentence of the document that names a boundary case; main lists the sentences.
 * Each test runs in each of the three ways.
 */
public final class BoundaryTest extends ByHand {
    private static final int MOST_CALLS = 512;

    private static final int[] NEVER = r(0, 0, 0);
    private static final int[] ALWAYS = r(3, 0, 0);

    /** A little outside, far outside, and what a shift, a byte or a mask would take for inside. */
    private static final int[] OUTSIDE_ALL = {
        LEAST, LEAST + 1, -257, -256, -255, -128, -32, -31, -8, -2, -1, 256, 257, 511, 512, 65536, GREATEST};

    /** Numbers of variables that a shift would take for one from 0 to 8. */
    private static final int[] OUTSIDE_LENGTHS = {
        LEAST, LEAST + 8, -32, -25, -24, -1, 9, 10, 31, 32, 33, 40, 64, 72, 256, 264, GREATEST};

    /** For each of the twelve rules of twelveApart(), a list of values for which only it fails. */
    private static final int[] FAILING = {0, 8, 1, 9, 2, 10, 3, 11, 4, 5, 6, 7};

    private static void test(String sentence, Runnable body) {
        about = sentence + ": ";
        for (way = 0; way < 3; way++) {
            body.run();
        }
    }

    // Helpers

    private static int[] mustBeOne(int v) {
        return r(0, 1 << v, 0);
    }

    private static int[] mustBeZero(int v) {
        return r(0, 0, 1 << v);
    }

    /**
     * Twelve rules that never fail together, each list of values making exactly one of them fail:
     * none can be left out without a loss, and without one of them some list is left.
     */
    private static int[][] twelveApart() {
        int[][] rules = new int[12][];
        for (int i = 0; i < 12; i++) {
            int told = i < 8 ? 15 : 7;
            rules[i] = r(0, told & ~FAILING[i], FAILING[i]);
        }
        return rules;
    }

    private static int[][] repeated(int[] rule, int times) {
        int[][] rules = new int[times][];
        for (int i = 0; i < times; i++) {
            rules[i] = rule;
        }
        return rules;
    }

    private static int[][] without(int[][] rules, int left) {
        int[][] fewer = new int[rules.length - 1][];
        for (int i = 0; i < fewer.length; i++) {
            fewer[i] = rules[i < left ? i : i + 1];
        }
        return fewer;
    }

    private static int[][] with(int[][] rules, int at, int[] rule) {
        int[][] changed = rules.clone();
        changed[at] = rule;
        return changed;
    }

    /** Which of the rules of twelveApart() the object has; all its rules are of these. */
    private static int rulesThere(QuantifiedGame x) {
        int set = 0;
        for (int i = 0; i < 12; i++) {
            set |= x.holds(FAILING[i]) ? 0 : 1 << i;
        }
        return set;
    }

    /** Whose the variables are, seen with a rule of their own each; the object has no other rule. */
    private static int theirsIn(QuantifiedGame x) {
        int set = 0;
        for (int v = 0; v < 8; v++) {
            due("rule for " + v, x.rule(0, 1 << v, 0), 1);
            set |= x.won(0, 0) == 0 ? 1 << v : 0;
            due("rule for " + v + " out", x.drop(0), 0);
        }
        return set;
    }

    /** A game whose answers depend on its sides and on all of its four rules. */
    private static QuantifiedGame mixed() {
        return game(0x52, r(0, 3, 4), r(1, 14, 1), r(2, 0xF1, 2), r(3, 0xC0, 0));
    }

    private static String show(int[] rule) {
        return "rule(" + rule[0] + ", " + rule[1] + ", " + rule[2] + ")";
    }

    // What it is

    private static void the512thCall() {
        the512th("count()", QuantifiedGame::count, 64);
        the512th("idle()", QuantifiedGame::idle, 0xFC);
        the512th("openings()", QuantifiedGame::openings, 0);
        the512th("blame()", QuantifiedGame::blame, 2);
        the512th("decided()", QuantifiedGame::decided, 1);
        the512th("needless()", QuantifiedGame::needless, 4);
        the512th("won(1, 1)", x -> x.won(1, 1), 0);
        the512th("won(2, 3)", x -> x.won(2, 3), 1);
        the512th("move(1, 1)", x -> x.move(1, 1), 0);
        the512th("holds(255)", x -> x.holds(255) ? 1 : 0, 1);
        the512th("give(7, 1)", x -> x.give(7, 1) ? 1 : 0, 1);
        the512th("rule(3, 1, 0)", x -> x.rule(3, 1, 0), 4);
        the512th("drop(2)", x -> x.drop(2), 2);
        the512th("way(1)", x -> x.way(1) ? 1 : 0, 1);
    }

    private static void the512th(String call, ToIntFunction<QuantifiedGame> last, int want) {
        QuantifiedGame x = game(2, mustBeOne(0), mustBeOne(1), ALWAYS);
        int calls = 5;
        while (calls + 4 < MOST_CALLS) {
            due("rule within the run", x.rule(0, 0, 0), 4);
            due("count() within the run", x.count(), 0);
            due("drop within the run", x.drop(3), 3);
            due("blame() within the run", x.blame(), 2);
            calls += 4;
        }
        while (calls + 1 < MOST_CALLS) {
            due("won(0, 0) within the run", x.won(0, 0), 0);
            calls++;
        }
        due("the 512th call " + call, last.applyAsInt(x), want);
    }

    // Terms

    private static void eightVariables() {
        for (int v = 0; v < 8; v++) {
            due("theirs is " + v + " alone", theirsIn(game(1 << v)), 1 << v);
            QuantifiedGame x = game(0, mustBeOne(v));
            due("bit " + v + " speaks of it: holds", x.holds(1 << v), true);
            due("bit " + v + " speaks of it: holds", x.holds(255 ^ 1 << v), false);
        }
    }

    private static void laterKnowsEarlier() {
        for (int early = 0; early < 8; early++) {
            for (int late = early + 1; late < 8; late++) {
                int pair = 1 << early | 1 << late;
                String at = "equal " + early + " and " + late + ", ";
                due(at + "they first: won(0, 0)", game(1 << early, r(3, pair, 0)).won(0, 0), 1);
                due(at + "they last: won(0, 0)", game(1 << late, r(3, pair, 0)).won(0, 0), 0);
                due(at + "both ours: won(0, 0)", game(255 ^ pair, r(3, pair, 0)).won(0, 0), 1);
                due(at + "both theirs: won(0, 0)", game(pair, r(3, pair, 0)).won(0, 0), 0);
            }
        }
    }

    private static void winIffAllHold() {
        due("no rules, all theirs: won(0, 0)", game(255).won(0, 0), 1);
        due("no rules, all ours: won(0, 0)", game(0).won(0, 0), 1);
        QuantifiedGame good = game(255, repeated(ALWAYS, 12));
        due("twelve that hold: won(0, 0)", good.won(0, 0), 1);
        for (int i = 0; i < 12; i++) {
            QuantifiedGame x = game(0, with(repeated(ALWAYS, 12), i, mustBeOne(7)));
            due("only rule " + i + " fails: won(8, 127)", x.won(8, 127), 0);
            due("only rule " + i + " fails: holds(127)", x.holds(127), false);
            due("rule " + i + " holds: won(8, 128)", x.won(8, 128), 1);
            QuantifiedGame never = game(0, with(repeated(ALWAYS, 12), i, NEVER));
            due("rule " + i + " never holds: won(0, 0)", never.won(0, 0), 0);
        }
    }

    private static void rulesFromZeroToEleven() {
        for (int i = 0; i < 12; i++) {
            QuantifiedGame x = game(0, with(repeated(ALWAYS, 12), i, NEVER));
            due("never at " + i + ": blame()", x.blame(), 1 << i);
            due("never at " + i + ": needless()", x.needless(), 0xFFF ^ 1 << i);
            due("never at " + i + ": drop", x.drop(i), 11);
            due("never at " + i + " out: count()", x.count(), 256);
        }
    }

    private static void kind0BothEmpty() {
        sameHolds(NEVER, n -> false);
        due("won(0, 0)", game(0, NEVER).won(0, 0), 0);
        due("won(8, 255)", game(255, NEVER).won(8, 255), 0);
    }

    private static void kind0OneEmptyOrFull() {
        sameHolds(r(0, 0x21, 0), n -> (n & 0x21) != 0);
        sameHolds(r(0, 0, 0x84), n -> (n & 0x84) != 0x84);
        sameHolds(r(0, 255, 0), n -> n != 0);
        sameHolds(r(0, 0, 255), n -> n != 255);
        sameHolds(r(0, 255, 255), n -> true);
        for (int v = 0; v < 8; v++) {
            int bit = 1 << v;
            sameHolds(mustBeOne(v), n -> (n & bit) != 0);
            sameHolds(mustBeZero(v), n -> (n & bit) == 0);
            sameHolds(r(0, bit, bit), n -> true);
        }
    }

    private static void kind1Parity() {
        sameHolds(r(1, 0, 0), n -> true);
        sameHolds(r(1, 0, 1), n -> false);
        for (int p : new int[] {1, 128, 0x81, 0x0E, 0x0F, 0xF0, 0x3C, 0xC3, 0x99}) {
            sameHolds(r(1, p, 0), n -> Integer.bitCount(n & p) % 2 == 0);
            sameHolds(r(1, p, 1), n -> Integer.bitCount(n & p) % 2 == 1);
        }
    }

    private static void kind2Limits() {
        for (int p : new int[] {0, 1, 128, 0xC0, 0x0F, 0xF0, 0x1F, 0xF8, 0x7C, 0xB9}) {
            for (int q = 0; q <= 4; q++) {
                int most = q;
                sameHolds(r(2, p, q), n -> Integer.bitCount(n & p) <= most);
            }
        }
    }

    private static void kind3AllEqual() {
        for (int p : new int[] {0, 1, 128, 3, 0xC0, 0x81, 0x7F, 0xFE, 255}) {
            for (int q : new int[] {0, 1, p, 255, 256, -1, LEAST, GREATEST}) {
                sameHolds(r(3, p, q), n -> (n & p) == 0 || (n & p) == p);
            }
        }
    }

    private static void startsFromZeroToEight() {
        for (int k = 0; k <= 8; k++) {
            for (int values = 0; values < 1 << k; values++) {
                // The end of this start's own line is the one list that is lost.
                int lost = values | 255 << k & 255;
                QuantifiedGame x = game(255, r(0, 255 & ~lost, lost));
                due("won(" + k + ", " + values + ")", x.won(k, values), 0);
                int other = values ^ 1;
                if (k > 0) {
                    due("won(" + k + ", " + other + ")", x.won(k, other), 1);
                }
            }
        }
    }

    private static void startAtTheEnd() {
        for (int theirs : new int[] {0, 255, 128, 127}) {
            QuantifiedGame x = game(theirs, r(0, 0, 128), r(1, 7, 1));
            for (int values = 0; values < 256; values += 5) {
                due("won(8, " + values + ")", x.won(8, values), x.holds(values) ? 1 : 0);
            }
            due("won(8, 7)", x.won(8, 7), 1);
            due("won(8, 135)", x.won(8, 135), 0);
            due("won(8, 255)", x.won(8, 255), 0);
        }
    }

    // Promise 1

    private static void newNoRules() {
        QuantifiedGame x = new QuantifiedGame();
        due("drop(0)", x.drop(0), BAD);
        due("count()", x.count(), 256);
        due("holds(0)", x.holds(0), true);
        due("holds(255)", x.holds(255), true);
        due("needless()", x.needless(), 0);
        due("blame()", x.blame(), 0);
        due("idle()", x.idle(), 255);
        due("decided()", x.decided(), 0);
        due("the first rule", x.rule(3, 0, 0), 1);
    }

    private static void newAllOurs() {
        due("theirs in a new object", theirsIn(new QuantifiedGame()), 0);
        due("openings()", new QuantifiedGame().openings(), 256);
    }

    private static void newApartFromOthers() {
        QuantifiedGame x = game(255, repeated(NEVER, 12));
        QuantifiedGame y = new QuantifiedGame();
        due("beside a full object: rule(3, 0, 0)", y.rule(3, 0, 0), 1);
        due("beside a full object: drop(0)", y.drop(0), 0);
        due("beside a full object: theirs", theirsIn(y), 0);
        due("the full object: rule(3, 0, 0)", x.rule(3, 0, 0), FULL);
        due("the full object: count()", x.count(), 0);
    }

    // Promise 2

    private static void giveInside() {
        for (int theirs : new int[] {0, 1, 128, 129, 0x55, 0xAA, 254, 127, 255}) {
            due("theirs", theirsIn(game(theirs)), theirs);
        }
        for (int v = 0; v < 8; v++) {
            QuantifiedGame x = game(255);
            due("give(" + v + ", 0)", x.give(v, 0), true);
            due("give(" + v + ", 0) again", x.give(v, 0), true);
            due("all but " + v + " theirs", theirsIn(x), 255 ^ 1 << v);
            due("give(" + v + ", 1)", x.give(v, 1), true);
            due("give(" + v + ", 1) again", x.give(v, 1), true);
            due("all theirs again", theirsIn(x), 255);
        }
    }

    private static void giveVariableOutside() {
        for (int v : OUTSIDE_ALL) {
            giveRefused(v, 0);
            giveRefused(v, 1);
        }
        for (int v : new int[] {8, 9, 15, 16, 31, 32, 39, 64, 255}) {
            giveRefused(v, 0);
            giveRefused(v, 1);
        }
    }

    private static void giveSideOutside() {
        for (int v = 0; v < 8; v++) {
            for (int side : new int[] {-1, 2, 3, -2, 256, 257, LEAST, LEAST + 1, GREATEST}) {
                giveRefused(v, side);
            }
        }
    }

    private static void giveBothOutside() {
        giveRefused(-1, -1);
        giveRefused(-1, 2);
        giveRefused(8, -1);
        giveRefused(8, 2);
        giveRefused(LEAST, GREATEST);
    }

    private static void giveRefused(int v, int side) {
        QuantifiedGame x = game(0xA6);
        due("give(" + v + ", " + side + ")", x.give(v, side), false);
        due("theirs after give(" + v + ", " + side + ")", theirsIn(x), 0xA6);
    }

    // Promise 3

    private static void ruleFull() {
        int[][] twelve = twelveApart();
        QuantifiedGame x = game(0, twelve);
        for (int kind = 0; kind < 4; kind++) {
            due("the 13th, of kind " + kind, x.rule(kind, 1, 0), FULL);
        }
        due("rules there after FULL", rulesThere(x), 0xFFF);
        due("drop(12) after FULL", x.drop(12), BAD);
        due("drop(11) after FULL", x.drop(11), 11);
        due("rule in the room made", x.rule(twelve[11][0], twelve[11][1], twelve[11][2]), 12);
        due("full again", x.rule(3, 0, 0), FULL);
        due("rules there at last", rulesThere(x), 0xFFF);
    }

    private static void ruleFullBeforeBad() {
        QuantifiedGame x = game(0, twelveApart());
        QuantifiedGame y = game(0, without(twelveApart(), 11));
        int[][] bad = {r(-1, 0, 0), r(4, 0, 0), r(0, -1, 0), r(0, 256, 0), r(0, 0, -1), r(0, 0, 256), r(1, 31, 0),
            r(1, 0, 2), r(1, 0, -1), r(2, 63, 0), r(2, 0, 5), r(2, 0, -1), r(3, -1, 0), r(3, 256, 0)};
        for (int[] b : bad) {
            due("with 12 rules: " + show(b), x.rule(b[0], b[1], b[2]), FULL);
            due("with 11 rules: " + show(b), y.rule(b[0], b[1], b[2]), BAD);
        }
        due("rules there of 12", rulesThere(x), 0xFFF);
        due("rules there of 11", rulesThere(y), 0x7FF);
    }

    private static void ruleKindOutside() {
        for (int kind : OUTSIDE_ALL) {
            ruleRefused(kind, 1, 0);
        }
        for (int kind : new int[] {4, 5, 7, 8, 16, 32, 255}) {
            ruleRefused(kind, 1, 0);
            ruleRefused(kind, 0, 0);
        }
    }

    private static void rulePOutside() {
        for (int kind = 0; kind < 4; kind++) {
            for (int p : OUTSIDE_ALL) {
                ruleRefused(kind, p, 0);
                ruleRefused(kind, p, 1);
            }
        }
    }

    private static void rulePInside() {
        for (int p = 0; p < 256; p++) {
            due("rule(0, " + p + ", 0)", game(0).rule(0, p, 0), 1);
            due("rule(3, " + p + ", 0)", game(0).rule(3, p, 0), 1);
        }
    }

    private static void ruleKind0Q() {
        for (int q : OUTSIDE_ALL) {
            ruleRefused(0, 0, q);
            ruleRefused(0, 255, q);
        }
        for (int q = 0; q < 256; q++) {
            due("rule(0, 0, " + q + ")", game(0).rule(0, 0, q), 1);
        }
    }

    private static void ruleKind1Q() {
        for (int q : OUTSIDE_ALL) {
            ruleRefused(1, 15, q);
        }
        for (int q : new int[] {2, 3, 4, 5, 15, 255}) {
            ruleRefused(1, 15, q);
            ruleRefused(1, 0, q);
        }
        due("rule(1, 15, 0)", game(0).rule(1, 15, 0), 1);
        due("rule(1, 15, 1)", game(0).rule(1, 15, 1), 1);
    }

    private static void ruleKind1Variables() {
        for (int p = 0; p < 256; p++) {
            if (Integer.bitCount(p) > 4) {
                ruleRefused(1, p, 0);
                ruleRefused(1, p, 1);
            } else {
                due("rule(1, " + p + ", 0)", game(0).rule(1, p, 0), 1);
                due("rule(1, " + p + ", 1)", game(0).rule(1, p, 1), 1);
            }
        }
    }

    private static void ruleKind2Q() {
        for (int q : OUTSIDE_ALL) {
            ruleRefused(2, 31, q);
        }
        for (int q : new int[] {5, 6, 7, 8, 31, 255}) {
            ruleRefused(2, 31, q);
            ruleRefused(2, 0, q);
        }
        for (int q = 0; q <= 4; q++) {
            due("rule(2, 31, " + q + ")", game(0).rule(2, 31, q), 1);
        }
    }

    private static void ruleKind2Variables() {
        for (int p = 0; p < 256; p++) {
            for (int q = 0; q <= 4; q++) {
                if (Integer.bitCount(p) > 5) {
                    ruleRefused(2, p, q);
                } else {
                    due("rule(2, " + p + ", " + q + ")", game(0).rule(2, p, q), 1);
                }
            }
        }
    }

    private static void ruleKind3AnyQ() {
        for (int q : OUTSIDE_ALL) {
            due("rule(3, 255, " + q + ")", game(0).rule(3, 255, q), 1);
            due("rule(3, 0, " + q + ")", game(0).rule(3, 0, q), 1);
        }
        for (int q = 0; q < 256; q++) {
            due("rule(3, 3, " + q + ")", game(0).rule(3, 3, q), 1);
        }
    }

    private static void ruleRefused(int kind, int p, int q) {
        String call = "rule(" + kind + ", " + p + ", " + q + ")";
        QuantifiedGame x = game(0, mustBeOne(0));
        due(call, x.rule(kind, p, q), BAD);
        due(call + ", then count()", x.count(), 128);
        due(call + ", then drop(1)", x.drop(1), BAD);
        due(call + ", then a good rule", x.rule(0, 2, 0), 2);
        due(call + ", then count()", x.count(), 64);
    }

    private static void ruleAnswersNumber() {
        QuantifiedGame x = game(0);
        for (int i = 0; i < 12; i++) {
            int[] rule = twelveApart()[i];
            due("rule " + i, x.rule(rule[0], rule[1], rule[2]), i + 1);
            due("rules there", rulesThere(x), (2 << i) - 1);
        }
    }

    // Promise 4

    private static void dropNone() {
        QuantifiedGame empty = game(0);
        for (int i = 0; i < 12; i++) {
            due("no rules: drop(" + i + ")", empty.drop(i), BAD);
        }
        due("no rules: the first rule", empty.rule(3, 0, 0), 1);
        QuantifiedGame x = game(0);
        for (int number = 0; number < 12; number++) {
            due("number " + number + ": drop of that number", x.drop(number), BAD);
            due("number " + number + ": drop(12)", x.drop(12), BAD);
            int[] rule = twelveApart()[number];
            due("rule " + number, x.rule(rule[0], rule[1], rule[2]), number + 1);
        }
        due("rules there", rulesThere(x), 0xFFF);
    }

    private static void dropOutside() {
        QuantifiedGame x = game(0, twelveApart());
        for (int i : OUTSIDE_ALL) {
            due("drop(" + i + ")", x.drop(i), BAD);
        }
        for (int i : new int[] {12, 13, 16, 31, 32, 33, 64}) {
            due("drop(" + i + ")", x.drop(i), BAD);
        }
        due("rules there", rulesThere(x), 0xFFF);
        due("full still", x.rule(3, 0, 0), FULL);
    }

    private static void dropMovesLaterDown() {
        for (int i = 0; i < 12; i++) {
            QuantifiedGame x = game(0, twelveApart());
            due("drop(" + i + ")", x.drop(i), 11);
            int there = 0xFFF ^ 1 << i;
            due("after drop(" + i + "): rules there", rulesThere(x), there);
            for (int left = 10; left >= 0; left--) {
                // The lowest rule that is there has number 0.
                there &= there - 1;
                due("after drop(" + i + "): drop(0)", x.drop(0), left);
                due("after drop(" + i + "), drop(0): rules there", rulesThere(x), there);
            }
            due("after drop(" + i + "): drop(0) of none", x.drop(0), BAD);
        }
    }

    private static void dropMovesWholeRules() {
        // Neighbours that differ in kind alone, in p alone and in q alone.
        int[][][] pairs = {
            {r(1, 3, 1), r(2, 3, 1)}, {r(1, 3, 1), r(1, 12, 1)}, {r(1, 3, 0), r(1, 3, 1)},
            {r(2, 15, 1), r(2, 15, 2)}, {r(0, 3, 1), r(3, 3, 1)}, {r(0, 4, 1), r(0, 4, 2)}};
        for (int[][] pair : pairs) {
            QuantifiedGame x = game(0, pair);
            due("drop(0)", x.drop(0), 1);
            String moved = show(pair[1]) + " moved down: ";
            QuantifiedGame y = game(0, pair[1]);
            for (int values = 0; values < 16; values++) {
                due(moved + "holds(" + values + ")", x.holds(values), y.holds(values));
            }
            due(moved + "count()", x.count(), y.count());
        }
    }

    private static void dropLastAndFirst() {
        QuantifiedGame x = game(0, twelveApart());
        for (int left = 11; left >= 0; left--) {
            due("drop(" + left + ")", x.drop(left), left);
            due("drop(" + left + "): rules there", rulesThere(x), (1 << left) - 1);
            due("drop(" + left + ") again", x.drop(left), BAD);
        }
        due("none left: count()", x.count(), 256);
        due("none left: needless()", x.needless(), 0);
        due("none left: the first rule", x.rule(0, 1, 0), 1);
        due("one again: count()", x.count(), 128);
    }

    // Promise 5

    private static void holdsOutside() {
        for (int n : OUTSIDE_ALL) {
            due("no rules: holds(" + n + ")", game(0).holds(n), false);
            due("one that always holds: holds(" + n + ")", game(0, ALWAYS).holds(n), false);
            due("at most none: holds(" + n + ")", game(0, r(2, 1, 0)).holds(n), false);
        }
        QuantifiedGame x = game(0);
        for (int n = 256; n < 512; n++) {
            due("no rules: holds(" + n + ")", x.holds(n), false);
        }
    }

    private static void holdsInside() {
        QuantifiedGame x = game(255);
        for (int n = 0; n < 256; n++) {
            due("no rules: holds(" + n + ")", x.holds(n), true);
        }
        QuantifiedGame ends = game(0, r(3, 255, 0));
        due("all equal: holds(0)", ends.holds(0), true);
        due("all equal: holds(255)", ends.holds(255), true);
        due("all equal: holds(1)", ends.holds(1), false);
        due("all equal: holds(254)", ends.holds(254), false);
        due("all equal: holds(127)", ends.holds(127), false);
        due("all equal: holds(128)", ends.holds(128), false);
    }

    private static void holdsAllOfTwelve() {
        QuantifiedGame x = game(0, twelveApart());
        for (int n = 0; n < 256; n++) {
            due("twelve apart: holds(" + n + ")", x.holds(n), false);
        }
        for (int i = 0; i < 12; i++) {
            QuantifiedGame y = game(0, without(twelveApart(), i));
            due("without rule " + i + ": holds where it fails", y.holds(FAILING[i]), true);
            due("without rule " + i + ": holds where the next fails", y.holds(FAILING[(i + 1) % 12]), false);
        }
    }

    // Promises 6 and 7

    private static void wonLengthOutside() {
        for (QuantifiedGame x : new QuantifiedGame[] {game(0), game(255, NEVER)}) {
            for (int k : OUTSIDE_LENGTHS) {
                for (int values : new int[] {-1, 0, 1, 255}) {
                    due("won(" + k + ", " + values + ")", x.won(k, values), BAD);
                }
            }
        }
    }

    private static void wonValuesOutside() {
        for (int k = 0; k <= 8; k++) {
            QuantifiedGame won = game(0);
            QuantifiedGame lost = game(255, NEVER);
            for (int values : OUTSIDE_ALL) {
                due("won(" + k + ", " + values + ")", won.won(k, values), BAD);
                due("won(" + k + ", " + values + ")", lost.won(k, values), BAD);
            }
            for (int values = 1 << k; values <= 256; values += 1 << k) {
                due("won(" + k + ", " + values + ")", won.won(k, values), BAD);
            }
            due("won(" + k + ", 2^k + 1)", lost.won(k, (1 << k) + 1), BAD);
            due("won(" + k + ", 2^k - 1)", won.won(k, (1 << k) - 1), 1);
            due("won(" + k + ", 2^k - 1)", lost.won(k, (1 << k) - 1), 0);
            due("won(" + k + ", 0)", won.won(k, 0), 1);
            due("won(" + k + ", 0)", lost.won(k, 0), 0);
        }
    }

    private static void moveLengthOutside() {
        for (QuantifiedGame x : new QuantifiedGame[] {game(0), game(255), game(0, NEVER)}) {
            for (int k : OUTSIDE_LENGTHS) {
                due("move(" + k + ", 0)", x.move(k, 0), BAD);
                due("move(" + k + ", -1)", x.move(k, -1), BAD);
                due("move(" + k + ", 1)", x.move(k, 1), BAD);
            }
            for (int values : new int[] {0, 1, 127, 128, 255, 256, -1}) {
                due("move(8, " + values + ")", x.move(8, values), BAD);
            }
        }
    }

    private static void moveValuesOutside() {
        for (int k = 0; k <= 7; k++) {
            QuantifiedGame won = game(0);
            QuantifiedGame lost = game(0, NEVER);
            for (int values : OUTSIDE_ALL) {
                due("move(" + k + ", " + values + ")", won.move(k, values), BAD);
            }
            for (int values = 1 << k; values <= 256; values += 1 << k) {
                due("move(" + k + ", " + values + ")", won.move(k, values), BAD);
                due("lost, BAD before NONE: move(" + k + ", " + values + ")", lost.move(k, values), BAD);
            }
            due("move(" + k + ", 2^k - 1)", won.move(k, (1 << k) - 1), 0);
            due("lost: move(" + k + ", 2^k - 1)", lost.move(k, (1 << k) - 1), NONE);
        }
    }

    private static void moveNone() {
        for (int k = 0; k <= 7; k++) {
            int last = (1 << k) - 1;
            due("ours, lost: move(" + k + ", 0)", game(0, NEVER).move(k, 0), NONE);
            due("ours, lost: move(" + k + ", 2^k - 1)", game(0, NEVER).move(k, last), NONE);
            due("theirs, won: move(" + k + ", 0)", game(255).move(k, 0), NONE);
            due("theirs, won: move(" + k + ", 2^k - 1)", game(255).move(k, last), NONE);
            due("ours, theirs all else, lost: move(" + k + ", 0)", game(255 ^ 1 << k, NEVER).move(k, 0), NONE);
            due("theirs, ours all else, won: move(" + k + ", 0)", game(1 << k).move(k, 0), NONE);
        }
    }

    private static void moveSmallest() {
        for (int k = 0; k <= 7; k++) {
            int bit = 1 << k;
            due("ours, both win: move(" + k + ", 0)", game(0).move(k, 0), 0);
            due("theirs, both win: move(" + k + ", 0)", game(255, NEVER).move(k, 0), 0);
            due("ours, 1 alone wins: move(" + k + ", 0)", game(255 ^ bit, mustBeOne(k)).move(k, 0), 1);
            due("ours, 0 alone wins: move(" + k + ", 0)", game(255 ^ bit, mustBeZero(k)).move(k, 0), 0);
            due("theirs, 1 alone wins: move(" + k + ", 0)", game(bit, mustBeZero(k)).move(k, 0), 1);
            due("theirs, 0 alone wins: move(" + k + ", 0)", game(bit, mustBeOne(k)).move(k, 0), 0);
        }
    }

    // Promises 8 and 9

    private static void countEnds() {
        due("no rules: count()", game(255).count(), 256);
        due("twelve that always hold: count()", game(0, repeated(ALWAYS, 12)).count(), 256);
        due("never: count()", game(0, NEVER).count(), 0);
        due("twelve apart: count()", game(0, twelveApart()).count(), 0);
        for (int list = 0; list < 256; list++) {
            due("all but list " + list + ": count()", game(0, r(0, 255 & ~list, list)).count(), 255);
            int[][] one = new int[8][];
            for (int v = 0; v < 8; v++) {
                one[v] = (list >> v & 1) == 1 ? mustBeOne(v) : mustBeZero(v);
            }
            due("list " + list + " alone: count()", game(0, one).count(), 1);
        }
    }

    private static void idleAllOrNone() {
        due("no rules: idle()", game(0).idle(), 255);
        due("never: idle()", game(0, NEVER).idle(), 255);
        due("twelve apart: idle()", game(0, twelveApart()).idle(), 255);
        due("twelve that always hold: idle()", game(0, repeated(ALWAYS, 12)).idle(), 255);
        due("all equal: idle()", game(0, r(3, 255, 0)).idle(), 0);
    }

    private static void idleForAllValues() {
        for (int list = 0; list < 256; list++) {
            // One list that differs is enough for every variable to play a part.
            due("all but list " + list + ": idle()", game(0, r(0, 255 & ~list, list)).idle(), 0);
            for (int v = 0; v < 8; v++) {
                int others = 255 ^ 1 << v;
                QuantifiedGame x = game(0, r(0, others & ~list, others & list));
                due("two lists that differ in " + v + ": idle()", x.idle(), 1 << v);
            }
        }
    }

    // Promise 10

    private static void openingsFirstOther() {
        for (int k = 1; k <= 7; k++) {
            int first = (1 << k) - 1;
            due("ours before " + k + ": openings()", game(255 ^ first).openings(), 1 << k);
            due("theirs before " + k + ": openings()", game(first).openings(), 1 << k);
            due(k + " alone theirs: openings()", game(1 << k).openings(), 1 << k);
            due(k + " alone ours: openings()", game(255 ^ 1 << k).openings(), 1 << k);
            // Variable k is the first of the other side, and it is all that counts.
            due("ours before " + k + ", it must be 1: openings()",
                game(255 ^ first, mustBeOne(k)).openings(), 0);
            due("theirs before " + k + ", it must be 1: openings()",
                game(first, mustBeOne(k)).openings(), 1 << k);
            due("ours before " + k + ", the one before must be 1: openings()",
                game(255 ^ first, mustBeOne(k - 1)).openings(), 1 << (k - 1));
            due("theirs before " + k + ", the one before must be 1: openings()",
                game(first, mustBeOne(k - 1)).openings(), 1 << (k - 1));
        }
    }

    private static void openingsAllOfOne() {
        for (int theirs : new int[] {0, 255}) {
            due("no rules: openings()", game(theirs).openings(), 256);
            due("never: openings()", game(theirs, NEVER).openings(), 0);
            due("7 must be 1: openings()", game(theirs, mustBeOne(7)).openings(), 128);
            due("all equal: openings()", game(theirs, r(3, 255, 0)).openings(), 2);
            due("all but one list: openings()", game(theirs, r(0, 255, 0)).openings(), 255);
        }
    }

    // Promise 11

    private static void blameNothing() {
        due("no rules, all ours: blame()", game(0).blame(), 0);
        due("no rules, all theirs: blame()", game(255).blame(), 0);
        due("twelve that always hold: blame()", game(255, repeated(ALWAYS, 12)).blame(), 0);
        for (int i = 0; i < 12; i++) {
            due("eleven of twelve apart: blame()", game(0, without(twelveApart(), i)).blame(), 0);
        }
    }

    private static void blameAll() {
        due("twelve apart, all ours: blame()", game(0, twelveApart()).blame(), 0xFFF);
        due("one that never holds: blame()", game(0, NEVER).blame(), 1);
        due("two that differ: blame()", game(0, mustBeOne(7), mustBeZero(7)).blame(), 3);
    }

    private static void blameLeavesOutEarlierFirst() {
        for (int early = 0; early < 12; early++) {
            for (int late = early + 1; late < 12; late++) {
                int[][] rules = with(repeated(ALWAYS, 12), early, NEVER);
                String at = early + " and " + late;
                due(at + " never hold: blame()", game(0, with(rules, late, NEVER)).blame(), 1 << late);
                int[][] one = with(repeated(ALWAYS, 12), early, mustBeOne(5));
                due(at + " differ: blame()",
                    game(0, with(one, late, mustBeZero(5))).blame(), 1 << early | 1 << late);
            }
        }
        due("twelve that never hold: blame()", game(0, repeated(NEVER, 12)).blame(), 1 << 11);
    }

    private static void blameWithoutTheOthersLeftOut() {
        int[][] two = {mustBeOne(0), mustBeZero(0), mustBeOne(1), mustBeZero(1)};
        due("two reasons, one after the other: blame()", game(0, two).blame(), 0b1100);
        int[][] mixed = {mustBeOne(0), mustBeOne(1), mustBeZero(1), mustBeZero(0)};
        due("two reasons, one within the other: blame()", game(0, mixed).blame(), 0b0110);
        int[][] crossed = {mustBeOne(0), mustBeOne(1), mustBeZero(0), mustBeZero(1)};
        due("two reasons that cross: blame()", game(0, crossed).blame(), 0b1010);
    }

    private static void blameLooksAtSides() {
        for (int v = 0; v < 8; v++) {
            due("theirs alone: blame()", game(1 << v, mustBeOne(v), mustBeZero(v)).blame(), 2);
            due("ours: blame()", game(255 ^ 1 << v, mustBeOne(v), mustBeZero(v)).blame(), 3);
        }
    }

    // Promise 12

    private static void decidedAtOnce() {
        for (int theirs : new int[] {0, 255, 0x55, 0xAA}) {
            due("no rules: decided()", game(theirs).decided(), 0);
            due("never: decided()", game(theirs, NEVER).decided(), 0);
            due("twelve that always hold: decided()", game(theirs, repeated(ALWAYS, 12)).decided(), 0);
            due("twelve apart: decided()", game(theirs, twelveApart()).decided(), 0);
        }
    }

    private static void decidedAfterEach() {
        for (int v = 0; v < 8; v++) {
            for (int theirs : new int[] {0, 255, 1 << v, 255 ^ 1 << v}) {
                due(v + " must be 1: decided()", game(theirs, mustBeOne(v)).decided(), v + 1);
                due(v + " must be 0: decided()", game(theirs, mustBeZero(v)).decided(), v + 1);
            }
        }
        due("all equal, ours: decided()", game(0, r(3, 255, 0)).decided(), 8);
        due("not all 0, ours: decided()", game(0, r(0, 255, 0)).decided(), 8);
    }

    private static void decidedZeroWhereWeHaveNone() {
        for (int v = 0; v < 7; v++) {
            // They lose us the game with variable 7, so move says NONE to us all along.
            due("0 at " + v + " leaves it open: decided()", game(128, mustBeOne(7), mustBeZero(v)).decided(), 8);
            due("0 at " + v + " decides it: decided()", game(128, mustBeOne(7), mustBeOne(v)).decided(), v + 1);
        }
    }

    private static void decidedZeroWhereTheyHaveNone() {
        for (int v = 0; v < 7; v++) {
            // We win the game with variable 7, so move says NONE to them at v.
            due("0 at " + v + " leaves it open: decided()", game(1 << v, r(0, 128 | 1 << v, 0)).decided(), 8);
            due("0 at " + v + " decides it: decided()", game(1 << v, r(0, 128, 1 << v)).decided(), v + 1);
        }
    }

    private static void decidedSmallest() {
        // Won, or lost, before the last variable that a rule names.
        due("0 makes it hold: decided()", game(0, r(0, 0, 255)).decided(), 1);
        due("they differ at once: decided()", game(2, r(3, 255, 0)).decided(), 2);
        due("they go over the limit: decided()", game(255, r(2, 0x1F, 2)).decided(), 5);
        due("we stay below the limit: decided()", game(0, r(2, 0x1F, 4)).decided(), 1);
        // Won by us long before, but not yet whatever the others get.
        due("won but open: won(0, 0)", game(0, mustBeOne(7)).won(0, 0), 1);
        due("won but open: decided()", game(0, mustBeOne(7)).decided(), 8);
        due("lost but open: won(0, 0)", game(128, mustBeOne(7)).won(0, 0), 0);
        due("lost but open: decided()", game(128, mustBeOne(7)).decided(), 8);
    }

    // Promise 13

    private static void needlessNoneOrAll() {
        due("no rules: needless()", game(0).needless(), 0);
        due("twelve apart: needless()", game(0, twelveApart()).needless(), 0);
        due("twelve that always hold: needless()", game(0, repeated(ALWAYS, 12)).needless(), 0xFFF);
    }

    private static void needlessEachByItself() {
        due("twelve times the same: needless()", game(0, repeated(mustBeOne(3), 12)).needless(), 0xFFF);
        due("twelve that never hold: needless()", game(0, repeated(NEVER, 12)).needless(), 0xFFF);
        for (int i = 0; i < 12; i++) {
            int[][] rules = twelveApart();
            QuantifiedGame x = game(255, with(rules, i, ALWAYS));
            due("only " + i + " always holds: needless()", x.needless(), 1 << i);
            int next = (i + 1) % 12;
            QuantifiedGame y = game(0, with(rules, i, rules[next]));
            due(i + " and " + next + " are the same: needless()", y.needless(), 1 << i | 1 << next);
        }
    }

    private static void needlessOneList() {
        for (int list = 0; list < 256; list++) {
            QuantifiedGame x = game(0, ALWAYS, r(0, 255 & ~list, list));
            due("all but list " + list + ": needless()", x.needless(), 1);
        }
    }

    // Promise 14

    private static void wayOutside() {
        String before = answers(mixed());
        for (int k : OUTSIDE_ALL) {
            QuantifiedGame x = mixed();
            due("way(" + k + ")", x.way(k), false);
            due("the same answers after way(" + k + ")", answers(x).equals(before), true);
        }
        for (int k : new int[] {3, 4, 5, 8, 32, 33, 34, 255}) {
            QuantifiedGame x = mixed();
            due("way(" + k + ")", x.way(k), false);
            due("the same answers after way(" + k + ")", answers(x).equals(before), true);
        }
    }

    private static void wayInside() {
        String before = answers(mixed());
        for (int k = 0; k <= 2; k++) {
            QuantifiedGame x = mixed();
            due("way(" + k + ")", x.way(k), true);
            due("way(" + k + ") again", x.way(k), true);
            due("the same answers in way " + k, answers(x).equals(before), true);
        }
    }

    private static void wayBetweenChanges() {
        for (int other = 0; other < 3; other++) {
            QuantifiedGame x = game(0, twelveApart());
            due("rules there", rulesThere(x), 0xFFF);
            due("way(" + other + ")", x.way(other), true);
            due("drop(0) in way " + other, x.drop(0), 11);
            due("give(0, 1) in way " + other, x.give(0, 1), true);
            due("way(" + way + ")", x.way(way), true);
            due("rules there after drop in way " + other, rulesThere(x), 0xFFE);
            due("count() after drop in way " + other, x.count(), 16);
            due("openings() after give in way " + other, x.openings(), 1);
            due("full in way " + other, x.rule(0, 15, 0), 12);
            due("way(" + other + ")", x.way(other), true);
            due("FULL in way " + other, x.rule(0, 15, 0), FULL);
            due("count() when full in way " + other, x.count(), 0);
        }
    }

    private static void termsAndObject() {
        test("An object is used for at most 512 calls", BoundaryTest::the512thCall);
        test("There are 8 VARIABLES, 0 to 7", BoundaryTest::eightVariables);
        test("from variable 0 to variable 7; the side .. knows all earlier ones", BoundaryTest::laterKnowsEarlier);
        test("we WIN the game iff at its end all rules HOLD", BoundaryTest::winIffAllHold);
        test("There are up to 12 rules, numbered from 0", BoundaryTest::rulesFromZeroToEleven);
        test("kind 0: p and q both empty: it never holds", BoundaryTest::kind0BothEmpty);
        test("kind 0: some variable of p is 1, or some variable of q is 0", BoundaryTest::kind0OneEmptyOrFull);
        test("kind 1: even (q = 0) or odd (q = 1)", BoundaryTest::kind1Parity);
        test("kind 2: at most q (0 to 4) variables of p are 1", BoundaryTest::kind2Limits);
        test("kind 3: all 0 or all 1; q plays no part", BoundaryTest::kind3AllEqual);
        test("A START is a number k from 0 to 8 with values from 0 to 2^k - 1", BoundaryTest::startsFromZeroToEight);
        test("A START with k = 8, where nothing is left to choose", BoundaryTest::startAtTheEnd);
        test("1: No rules", BoundaryTest::newNoRules);
        test("1: all variables are ours", BoundaryTest::newAllOurs);
        test("1: of a new object, whatever others hold", BoundaryTest::newApartFromOthers);
    }

    private static void changes() {
        test("2: Else true", BoundaryTest::giveInside);
        test("2: v outside 0..7: refused", BoundaryTest::giveVariableOutside);
        test("2: side outside 0..1: refused", BoundaryTest::giveSideOutside);
        test("2: v outside 0..7 and side outside 0..1: refused", BoundaryTest::giveBothOutside);
        test("3: 12 rules are there: FULL", BoundaryTest::ruleFull);
        test("3: Tested in this order: FULL, BAD", BoundaryTest::ruleFullBeforeBad);
        test("3: kind outside 0..3: BAD", BoundaryTest::ruleKindOutside);
        test("3: p outside 0..255: BAD", BoundaryTest::rulePOutside);
        test("3: p from 0 to 255 is none of these", BoundaryTest::rulePInside);
        test("3: in kind 0 q outside 0..255: BAD", BoundaryTest::ruleKind0Q);
        test("3: in kind 1 q outside 0..1: BAD", BoundaryTest::ruleKind1Q);
        test("3: in kind 1 more than 4 variables in p: BAD", BoundaryTest::ruleKind1Variables);
        test("3: in kind 2 q outside 0..4: BAD", BoundaryTest::ruleKind2Q);
        test("3: in kind 2 more than 5 variables in p: BAD", BoundaryTest::ruleKind2Variables);
        test("3: in kind 3 any q is good", BoundaryTest::ruleKind3AnyQ);
        test("3: Else answers the number of rules", BoundaryTest::ruleAnswersNumber);
        test("4: There is none: BAD", BoundaryTest::dropNone);
        test("4: There is none, far outside: BAD", BoundaryTest::dropOutside);
        test("4: later ones move one down", BoundaryTest::dropMovesLaterDown);
        test("4: later ones move one down, whole", BoundaryTest::dropMovesWholeRules);
        test("4: Else answers the number of rules left, to 0", BoundaryTest::dropLastAndFirst);
        test("14: k outside 0..2: refused, answers false", BoundaryTest::wayOutside);
        test("14: Else true", BoundaryTest::wayInside);
        test("14: It shows in no answer", BoundaryTest::wayBetweenChanges);
    }

    private static void questions() {
        test("5: false for a number outside 0..255", BoundaryTest::holdsOutside);
        test("5: no rules, and the ends 0 and 255", BoundaryTest::holdsInside);
        test("5: Whether all rules hold, up to 12", BoundaryTest::holdsAllOfTwelve);
        test("6: BAD if k is outside 0..8", BoundaryTest::wonLengthOutside);
        test("6: BAD if values outside 0..2^k - 1", BoundaryTest::wonValuesOutside);
        test("7: k outside 0..7: BAD", BoundaryTest::moveLengthOutside);
        test("7: values outside 0..2^k - 1: BAD, before NONE", BoundaryTest::moveValuesOutside);
        test("7: there is none: NONE", BoundaryTest::moveNone);
        test("7: The smallest value", BoundaryTest::moveSmallest);
        test("8: how many of the 256 lists, from 0 to 256", BoundaryTest::countEnds);
        test("9: no variable or all variables play no part", BoundaryTest::idleAllOrNone);
        test("9: for all values of the others", BoundaryTest::idleForAllValues);
        test("10: k before the first one that belongs to another side", BoundaryTest::openingsFirstOther);
        test("10: 8 if all belong to one", BoundaryTest::openingsAllOfOne);
        test("11: 0 if we win with all rules", BoundaryTest::blameNothing);
        test("11: beginning with all rules, none left out", BoundaryTest::blameAll);
        test("11: from rule 0 on", BoundaryTest::blameLeavesOutEarlierFirst);
        test("11: without it and the others left out before", BoundaryTest::blameWithoutTheOthersLeftOut);
        test("11: from the start with k = 0", BoundaryTest::blameLooksAtSides);
        test("12: decided before any variable", BoundaryTest::decidedAtOnce);
        test("12: decided after each variable, up to all", BoundaryTest::decidedAfterEach);
        test("12: 0 where it says NONE, to us", BoundaryTest::decidedZeroWhereWeHaveNone);
        test("12: 0 where it says NONE, to them", BoundaryTest::decidedZeroWhereTheyHaveNone);
        test("12: the smallest k", BoundaryTest::decidedSmallest);
        test("13: no rules, none needless, all needless", BoundaryTest::needlessNoneOrAll);
        test("13: each looked at by itself", BoundaryTest::needlessEachByItself);
        test("13: the lists are the same, to the last one", BoundaryTest::needlessOneList);
    }

    public static void main(String[] args) {
        termsAndObject();
        changes();
        questions();
        end();
    }
}
