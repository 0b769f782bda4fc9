import java.util.function.IntFunction;

/** What the tests by hand share: games in the way under test, and answers against those due. */
abstract class ByHand {
    protected static final int BAD = -1;
    protected static final int FULL = -2;
    protected static final int NONE = -3;
    protected static final int LEAST = Integer.MIN_VALUE;
    protected static final int GREATEST = Integer.MAX_VALUE;

    protected static int way = 2;
    protected static String about = "";

    private static final int MOST_SHOWN = 50;
    private static int wrong = 0;

    protected static void due(String call, int got, int want) {
        if (got == want) {
            return;
        }
        wrong++;
        if (wrong <= MOST_SHOWN) {
            System.out.println(about + "way " + way + ", " + call + " answered " + got + ", due is " + want);
        }
    }

    protected static void due(String call, boolean got, boolean want) {
        due(call, got ? 1 : 0, want ? 1 : 0);
    }

    /** A game in the way under test whose variables in theirs belong to them. */
    protected static QuantifiedGame game(int theirs, int[]... rules) {
        QuantifiedGame x = new QuantifiedGame();
        due("way(" + way + ")", x.way(way), true);
        for (int v = 0; v < 8; v++) {
            if ((theirs >> v & 1) == 1) {
                due("give(" + v + ", 1)", x.give(v, 1), true);
            }
        }
        for (int i = 0; i < rules.length; i++) {
            due("rule " + i, x.rule(rules[i][0], rules[i][1], rules[i][2]), i + 1);
        }
        return x;
    }

    protected static int[] r(int kind, int p, int q) {
        return new int[] {kind, p, q};
    }

    protected static void sameHolds(int[] rule, IntFunction<Boolean> want) {
        QuantifiedGame x = game(0, rule);
        for (int values = 0; values < 256; values++) {
            due("rule(" + rule[0] + ", " + rule[1] + ", " + rule[2] + "): holds(" + values + ")",
                x.holds(values), want.apply(values));
        }
    }

    /** The answers to 33 calls, few enough to be asked thirteen times of one object. */
    protected static String answers(QuantifiedGame x) {
        StringBuilder all = new StringBuilder();
        for (int k = 0; k <= 8; k++) {
            int values = 0xA6 & (1 << k) - 1;
            all.append(x.won(k, values)).append(x.move(k, values)).append(x.holds(values)).append(' ');
        }
        all.append(x.count()).append(' ').append(x.idle()).append(' ').append(x.openings()).append(' ');
        all.append(x.blame()).append(' ').append(x.decided()).append(' ').append(x.needless());
        return all.toString();
    }

    protected static void end() {
        System.out.println(wrong == 0 ? "all answers are as due" : wrong + " answers are not as due");
        if (wrong != 0) {
            System.exit(1);
        }
    }
}
