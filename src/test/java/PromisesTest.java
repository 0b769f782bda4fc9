/** For each promise of the document: ordinary inputs, the edges it names, and wrong inputs. */
public final class PromisesTest extends ByHand {
    private static final int[] FAR = {-1, LEAST, GREATEST};

    private static void constants() {
        due("BAD", QuantifiedGame.BAD, BAD);
        due("FULL", QuantifiedGame.FULL, FULL);
        due("NONE", QuantifiedGame.NONE, NONE);
    }

    private static void promise1NewObject() {
        QuantifiedGame x = new QuantifiedGame();
        due("new: drop(0)", x.drop(0), BAD);
        due("new: count()", x.count(), 256);
        due("new: idle()", x.idle(), 255);
        due("new: needless()", x.needless(), 0);
        due("new: blame()", x.blame(), 0);
        due("new: decided()", x.decided(), 0);
        due("new: openings()", x.openings(), 256);
        due("new: first rule", x.rule(0, 1, 0), 1);
        // A variable of theirs would lose the game of its own rule, so all eight are seen to be ours.
        for (int v = 0; v < 8; v++) {
            QuantifiedGame y = new QuantifiedGame();
            y.rule(0, 1 << v, 0);
            due("new, variable " + v + " must be 1: won(0, 0)", y.won(0, 0), 1);
        }
        QuantifiedGame a = new QuantifiedGame();
        QuantifiedGame b = new QuantifiedGame();
        a.rule(0, 0, 0);
        a.give(0, 1);
        due("another object: count()", b.count(), 256);
        due("another object: openings()", b.openings(), 256);
    }

    private static void promise2Give() {
        for (int v = 0; v < 8; v++) {
            QuantifiedGame x = game(0, r(0, 1 << v, 0));
            due("give(" + v + ", 1)", x.give(v, 1), true);
            due("theirs " + v + ": won(0, 0)", x.won(0, 0), 0);
            due("give(" + v + ", 1) again", x.give(v, 1), true);
            due("theirs " + v + ": won(0, 0)", x.won(0, 0), 0);
            for (int bad : new int[] {-1, 2, 3, LEAST, GREATEST}) {
                due("give(" + v + ", " + bad + ")", x.give(v, bad), false);
                due("after a refused give: won(0, 0)", x.won(0, 0), 0);
            }
            due("give(" + v + ", 0)", x.give(v, 0), true);
            due("ours again " + v + ": won(0, 0)", x.won(0, 0), 1);
        }
        QuantifiedGame x = game(0, r(3, 255, 0));
        for (int bad : new int[] {-8, -1, 8, 9, 16, 256, LEAST, GREATEST}) {
            due("give(" + bad + ", 1)", x.give(bad, 1), false);
            due("give(" + bad + ", 0)", x.give(bad, 0), false);
            due("give(" + bad + ", 2)", x.give(bad, 2), false);
        }
        due("after refused gives: won(0, 0)", x.won(0, 0), 1);
        due("after refused gives: openings()", x.openings(), 2);
    }

    private static void promise3Rule() {
        QuantifiedGame x = game(0);
        int[][] bad = {
            r(-1, 0, 0), r(4, 0, 0), r(LEAST, 0, 0), r(GREATEST, 0, 0),
            r(0, -1, 0), r(0, 256, 0), r(0, 0, -1), r(0, 0, 256),
            r(1, -1, 0), r(1, 256, 0), r(1, 15, -1), r(1, 15, 2), r(1, 31, 0), r(1, 255, 1), r(1, 0xF8, 0),
            r(2, -1, 0), r(2, 256, 0), r(2, 31, -1), r(2, 31, 5), r(2, 63, 4), r(2, 255, 4), r(2, 0xFC, 0),
            r(3, -1, 0), r(3, 256, 0)};
        for (int[] b : bad) {
            due("rule(" + b[0] + ", " + b[1] + ", " + b[2] + ")", x.rule(b[0], b[1], b[2]), BAD);
        }
        for (int kind = 0; kind < 4; kind++) {
            for (int p : FAR) {
                due("rule(" + kind + ", " + p + ", 0)", x.rule(kind, p, 0), BAD);
            }
            if (kind < 3) {
                for (int q : FAR) {
                    due("rule(" + kind + ", 0, " + q + ")", x.rule(kind, 0, q), BAD);
                }
            }
        }
        due("after bad rules: drop(0)", x.drop(0), BAD);
        due("after bad rules: count()", x.count(), 256);

        int[][] good = {
            r(0, 255, 255), r(0, 255, 0), r(0, 0, 255), r(1, 15, 0), r(1, 0xF0, 1), r(2, 31, 0),
            r(2, 0xF8, 4), r(3, 255, 0), r(3, 255, -1), r(3, 0, GREATEST), r(3, 129, LEAST),
            r(2, 0, 0)};
        for (int i = 0; i < good.length; i++) {
            due("good rule " + i, x.rule(good[i][0], good[i][1], good[i][2]), i + 1);
        }
        due("rule when full", x.rule(0, 1, 0), FULL);
        due("FULL before BAD: kind", x.rule(4, 0, 0), FULL);
        due("FULL before BAD: p", x.rule(0, -1, 0), FULL);
        due("FULL before BAD: q", x.rule(1, 0, 7), FULL);
        due("drop makes room", x.drop(11), 11);
        due("room again, but bad", x.rule(4, 0, 0), BAD);
        due("room again", x.rule(3, 3, 0), 12);
        due("full again", x.rule(3, 3, 0), FULL);
    }

    private static void promise4Drop() {
        QuantifiedGame x = game(0, r(0, 1, 0), r(0, 2, 0), r(0, 4, 0), r(0, 8, 0));
        due("drop(-1)", x.drop(-1), BAD);
        due("drop(4)", x.drop(4), BAD);
        for (int i : FAR) {
            due("drop(" + i + ")", x.drop(i), BAD);
        }
        due("after bad drops: count()", x.count(), 16);
        due("drop(1)", x.drop(1), 3);
        due("without rule 1: holds(13)", x.holds(13), true);
        due("without rule 1: holds(5)", x.holds(5), false);
        due("drop(3)", x.drop(3), BAD);
        due("drop(1), once rule 2", x.drop(1), 2);
        due("then holds(9)", x.holds(9), true);
        due("then holds(8)", x.holds(8), false);
        due("then holds(1)", x.holds(1), false);
        due("drop(1), once rule 3", x.drop(1), 1);
        due("then holds(1)", x.holds(1), true);
        due("drop(0)", x.drop(0), 0);
        due("then count()", x.count(), 256);
        due("drop(0) of none", x.drop(0), BAD);

        // All three parts of a rule move down, at the far end too.
        QuantifiedGame y = game(0);
        for (int i = 0; i < 11; i++) {
            y.rule(3, 0, 0);
        }
        due("rule 11", y.rule(2, 7, 1), 12);
        for (int left = 11; left >= 1; left--) {
            due("drop(0)", y.drop(0), left);
            due("the last rule stays: holds(4)", y.holds(4), true);
            due("the last rule stays: holds(5)", y.holds(5), false);
            due("the last rule stays: holds(248)", y.holds(248), true);
        }
    }

    private static void promise5Holds() {
        sameHolds(r(0, 3, 4), n -> n % 8 != 4);
        sameHolds(r(0, 0x81, 0x42), n -> (n & 0x81) != 0 || (n & 0x42) != 0x42);
        sameHolds(r(0, 8, 8), n -> true);
        sameHolds(r(0, 0, 0), n -> false);
        sameHolds(r(0, 255, 0), n -> n != 0);
        sameHolds(r(0, 0, 255), n -> n != 255);
        sameHolds(r(1, 0x8B, 0), n -> Integer.bitCount(n & 0x8B) % 2 == 0);
        sameHolds(r(1, 0x8B, 1), n -> Integer.bitCount(n & 0x8B) % 2 == 1);
        sameHolds(r(1, 0, 0), n -> true);
        sameHolds(r(1, 0, 1), n -> false);
        for (int q = 0; q <= 4; q++) {
            int most = q;
            sameHolds(r(2, 0xD5, q), n -> Integer.bitCount(n & 0xD5) <= most);
            sameHolds(r(2, 0x41, q), n -> Integer.bitCount(n & 0x41) <= most);
            sameHolds(r(2, 0, q), n -> true);
        }
        sameHolds(r(3, 0x92, 77), n -> (n & 0x92) == 0 || (n & 0x92) == 0x92);
        sameHolds(r(3, 255, -5), n -> n == 0 || n == 255);
        sameHolds(r(3, 16, 0), n -> true);
        sameHolds(r(3, 0, 1), n -> true);

        QuantifiedGame x = game(0, r(0, 1, 0), r(2, 7, 1));
        due("both hold: holds(1)", x.holds(1), true);
        due("only the first: holds(3)", x.holds(3), false);
        due("only the second: holds(2)", x.holds(2), false);
        due("neither: holds(6)", x.holds(6), false);
        QuantifiedGame none = game(255);
        due("no rules: holds(0)", none.holds(0), true);
        due("no rules: holds(255)", none.holds(255), true);
        for (int n : new int[] {-256, -1, 256, 257, 512, LEAST, GREATEST}) {
            due("no rules: holds(" + n + ")", none.holds(n), false);
        }
    }

    private static void promise6Won() {
        // Variable 1 is theirs, 2 must equal it, 0 must be 1.
        QuantifiedGame x = game(2, r(3, 6, 0), r(0, 1, 0));
        due("won(0, 0)", x.won(0, 0), 1);
        due("won(1, 0)", x.won(1, 0), 0);
        due("won(1, 1)", x.won(1, 1), 1);
        due("won(2, 1)", x.won(2, 1), 1);
        due("won(2, 3)", x.won(2, 3), 1);
        due("won(3, 1)", x.won(3, 1), 1);
        due("won(3, 3)", x.won(3, 3), 0);
        due("won(3, 5)", x.won(3, 5), 0);
        due("won(3, 7)", x.won(3, 7), 1);
        due("won(8, 7)", x.won(8, 7), 1);
        due("won(8, 255)", x.won(8, 255), 1);
        due("won(8, 251)", x.won(8, 251), 0);
        // Who chooses last knows more: the same rule with the sides changed.
        QuantifiedGame y = game(4, r(3, 6, 0), r(0, 1, 0));
        due("they choose last: won(0, 0)", y.won(0, 0), 0);
        due("they choose last: won(2, 1)", y.won(2, 1), 0);
        due("they choose last: won(3, 7)", y.won(3, 7), 1);
        QuantifiedGame last = game(128, r(0, 128, 64));
        due("variable 7 theirs: won(0, 0)", last.won(0, 0), 1);
        due("variable 7 theirs: won(7, 64)", last.won(7, 64), 0);
        due("variable 7 theirs: won(7, 63)", last.won(7, 63), 1);
        QuantifiedGame none = game(255);
        for (int k = 0; k <= 8; k++) {
            due("no rules: won(" + k + ", 0)", none.won(k, 0), 1);
            due("no rules: won(" + k + ", 2^k - 1)", none.won(k, (1 << k) - 1), 1);
            due("won(" + k + ", 2^k)", none.won(k, 1 << k), BAD);
            for (int far : FAR) {
                due("won(" + k + ", " + far + ")", none.won(k, far), BAD);
            }
        }
        for (int k : new int[] {-1, 9, 31, 32, 40, LEAST, GREATEST}) {
            due("won(" + k + ", 0)", none.won(k, 0), BAD);
            due("won(" + k + ", -1)", none.won(k, -1), BAD);
        }
    }

    private static void promise7Move() {
        QuantifiedGame x = game(2, r(3, 6, 0), r(0, 1, 0));
        due("we need 1: move(0, 0)", x.move(0, 0), 1);
        due("they have none: move(1, 1)", x.move(1, 1), NONE);
        due("they win with both: move(1, 0)", x.move(1, 0), 0);
        due("we follow 0: move(2, 1)", x.move(2, 1), 0);
        due("we follow 1: move(2, 3)", x.move(2, 3), 1);
        due("we have none: move(2, 0)", x.move(2, 0), NONE);
        due("all is one: move(7, 127)", x.move(7, 127), 0);
        due("lost: move(7, 126)", x.move(7, 126), NONE);
        QuantifiedGame y = game(128, r(0, 0, 192));
        due("they need 1: move(7, 64)", y.move(7, 64), 1);
        due("they have none: move(7, 0)", y.move(7, 0), NONE);
        due("we choose 0: move(6, 0)", y.move(6, 0), 0);
        QuantifiedGame z = game(128, r(0, 128, 0));
        due("they choose 0: move(7, 0)", z.move(7, 0), 0);
        due("we have none: move(6, 63)", z.move(6, 63), NONE);
        for (int k = 0; k <= 7; k++) {
            due("move(" + k + ", 2^k - 1)", z.move(k, (1 << k) - 1) == BAD, false);
            due("move(" + k + ", 2^k)", z.move(k, 1 << k), BAD);
            for (int far : FAR) {
                due("move(" + k + ", " + far + ")", z.move(k, far), BAD);
            }
        }
        for (int k : new int[] {-1, 8, 9, 31, 32, 40, LEAST, GREATEST}) {
            due("move(" + k + ", 0)", z.move(k, 0), BAD);
        }
    }

    private static void promise8Count() {
        due("no rules: count()", game(0).count(), 256);
        due("one value fixed: count()", game(255, r(0, 128, 0)).count(), 128);
        due("odd: count()", game(0, r(1, 0xF0, 1)).count(), 128);
        due("at most 2 of 5: count()", game(7, r(2, 0xF8, 2)).count(), 128);
        due("at most 1 of 5: count()", game(0, r(2, 0xF8, 1)).count(), 48);
        due("all equal: count()", game(0, r(3, 255, 0)).count(), 2);
        due("two rules: count()", game(0, r(0, 3, 0), r(0, 0, 12)).count(), 144);
        due("contradiction: count()", game(0, r(0, 1, 0), r(0, 0, 1)).count(), 0);
        due("never: count()", game(0, r(0, 0, 0)).count(), 0);
    }

    private static void promise9Idle() {
        due("no rules: idle()", game(170).idle(), 255);
        due("two named: idle()", game(0, r(0, 1, 128)).idle(), 0x7E);
        due("all equal: idle()", game(0, r(3, 255, 0)).idle(), 0);
        due("never: idle()", game(0, r(0, 0, 0)).idle(), 255);
        due("a rule that always holds: idle()", game(0, r(0, 8, 8)).idle(), 255);
        due("at most 4 of 4: idle()", game(0, r(2, 15, 4)).idle(), 255);
        due("one variable is equal: idle()", game(0, r(3, 16, 0)).idle(), 255);
        // Named by both rules, but with them together 1 no longer matters.
        due("resolved away: idle()", game(0, r(0, 3, 0), r(0, 1, 2)).idle(), 0xFE);
        for (int v = 0; v < 8; v++) {
            due("only " + v + ": idle()", game(0, r(0, 1 << v, 0)).idle(), 255 ^ 1 << v);
        }
        // One list of values in 256 is enough to play a part.
        due("one list: idle()", game(0, r(0, 255, 0)).idle(), 0);
    }

    private static void promise10Openings() {
        int[] two = r(0, 3, 0);
        due("all ours: openings()", game(0, two).openings(), 192);
        due("all theirs: openings()", game(255, two).openings(), 192);
        due("all but the last ours: openings()", game(128, two).openings(), 96);
        due("all but the last theirs: openings()", game(127, two).openings(), 96);
        due("first theirs: openings()", game(1, two).openings(), 2);
        due("first ours, second theirs: openings()", game(2, two).openings(), 1);
        due("first two theirs, then us, then they: openings()", game(0x0B, two).openings(), 3);
        due("one of theirs in the middle: openings()", game(16, r(3, 24, 0), two).openings(), 0);
        due("one of theirs in the middle: openings()", game(8, r(3, 24, 0), two).openings(), 6);
        due("never: openings()", game(4, r(0, 0, 0)).openings(), 0);
        due("no rules, k = 1: openings()", game(254).openings(), 2);
    }

    private static void promise11Blame() {
        due("no rules: blame()", game(255).blame(), 0);
        due("we win: blame()", game(0, r(0, 1, 0), r(0, 0, 2)).blame(), 0);
        due("one alone: blame()", game(2, r(0, 1, 0), r(0, 2, 0), r(0, 4, 0)).blame(), 2);
        due("two together: blame()", game(0, r(0, 1, 0), r(0, 8, 0), r(0, 0, 1)).blame(), 5);
        // Of two equal reasons the earlier is left out.
        due("twice the same: blame()", game(1, r(0, 1, 0), r(0, 1, 0)).blame(), 2);
        due("two reasons: blame()", game(0, r(0, 0, 0), r(0, 1, 0), r(0, 0, 1)).blame(), 6);
        due("two reasons, other order: blame()", game(0, r(0, 1, 0), r(0, 0, 1), r(0, 0, 0)).blame(), 4);
        QuantifiedGame x = game(128);
        for (int i = 0; i < 11; i++) {
            x.rule(0, 64, 0);
        }
        due("rule 11", x.rule(0, 128, 0), 12);
        due("the twelfth: blame()", x.blame(), 1 << 11);
        due("after blame all rules are there: count()", x.count(), 64);
        due("ours again", x.give(7, 0), true);
        due("we win: blame()", x.blame(), 0);
    }

    private static void promise12Decided() {
        due("no rules: decided()", game(170).decided(), 0);
        due("never: decided()", game(85, r(1, 0, 1)).decided(), 0);
        due("we choose 1: decided()", game(0, r(0, 1, 0)).decided(), 1);
        due("we choose 0: decided()", game(0, r(0, 0, 4)).decided(), 3);
        due("they choose 0: decided()", game(1, r(0, 1, 0)).decided(), 1);
        due("they choose 1: decided()", game(16, r(0, 0, 16)).decided(), 5);
        due("the last: decided()", game(128, r(0, 128, 0)).decided(), 8);
        due("all equal, we: decided()", game(0, r(3, 255, 0)).decided(), 8);
        // Up to 4 all are 0; once variable 5 differs nothing can make all equal.
        due("all equal, they at 5: decided()", game(32, r(3, 255, 0)).decided(), 6);
        // Lost from the start through variable 7, so move says NONE to us and 0 is chosen.
        due("NONE is 0, which leaves it open: decided()", game(128, r(0, 128, 0), r(0, 0, 1)).decided(), 8);
        due("NONE is 0, which decides it: decided()", game(128, r(0, 128, 0), r(0, 1, 0)).decided(), 1);
        due("lost by two rules: decided()", game(128, r(0, 128, 4), r(0, 4, 0)).decided(), 3);
        due("we avoid it: decided()", game(128, r(0, 128, 1)).decided(), 1);
        // They have NONE at variable 0 and so choose 0, which makes rule 0 hold.
        due("they have none: decided()", game(1, r(0, 8, 1)).decided(), 1);
        due("they have none, other value: decided()", game(1, r(0, 9, 0)).decided(), 4);
    }

    private static void promise13Needless() {
        due("no rules: needless()", game(0).needless(), 0);
        due("one that says something: needless()", game(0, r(0, 1, 0)).needless(), 0);
        due("one that always holds: needless()", game(0, r(3, 1, 0)).needless(), 1);
        due("follows from another: needless()", game(0, r(0, 3, 0), r(0, 1, 0)).needless(), 1);
        due("follows from two: needless()", game(0, r(3, 3, 0), r(3, 6, 0), r(3, 5, 0)).needless(), 7);
        due("twice the same: needless()", game(0, r(0, 1, 0), r(0, 2, 0), r(0, 1, 0)).needless(), 5);
        due("one list: needless()", game(0, r(0, 255, 0), r(0, 0, 255)).needless(), 0);
        due("contradiction: needless()", game(0, r(0, 1, 0), r(0, 0, 1), r(0, 2, 0)).needless(), 4);
        due("whose turn plays no part: needless()", game(255, r(0, 3, 0), r(0, 1, 0)).needless(), 1);
        QuantifiedGame x = game(0);
        for (int i = 0; i < 11; i++) {
            x.rule(0, 1 << i % 8, 0);
        }
        x.rule(2, 0, 4);
        due("twelve: needless()", x.needless(), 0b1111_0000_0111);
        due("after needless all rules are there: count()", x.count(), 1);
    }

    private static void promise14Way() {
        QuantifiedGame x = game(0x52, r(0, 3, 4), r(1, 14, 1), r(2, 0xF1, 2), r(3, 0xC0, 0));
        String first = answers(x);
        for (int k : new int[] {-1, 3, 4, 32, LEAST, GREATEST}) {
            due("way(" + k + ")", x.way(k), false);
            due("same answers after refused way(" + k + ")", answers(x).equals(first), true);
        }
        for (int k : new int[] {0, 1, 2, 2, 1, 0}) {
            due("way(" + k + ")", x.way(k), true);
            due("same answers in way " + k, answers(x).equals(first), true);
        }
        // A change made in one way is seen in the others.
        for (int from = 0; from < 3; from++) {
            for (int to = 0; to < 3; to++) {
                QuantifiedGame y = game(0, r(0, 1, 0));
                y.way(to);
                y.count();
                y.way(from);
                due("rule in way " + from, y.rule(0, 2, 0), 2);
                due("give in way " + from, y.give(1, 1), true);
                due("way(" + to + ")", y.way(to), true);
                due("count() in way " + to, y.count(), 64);
                due("won(0, 0) in way " + to, y.won(0, 0), 0);
            }
        }
    }

    public static void main(String[] args) {
        constants();
        for (way = 0; way < 3; way++) {
            promise1NewObject();
            promise2Give();
            promise3Rule();
            promise4Drop();
            promise5Holds();
            promise6Won();
            promise7Move();
            promise8Count();
            promise9Idle();
            promise10Openings();
            promise11Blame();
            promise12Decided();
            promise13Needless();
            promise14Way();
        }
        end();
    }
}
