/**
 * Long runs of calls, made by a fixed sequence of numbers, on objects beside a plain model that
 * follows the document word by word; every answer is compared.
 */
public final class ModelTest {
    private static final int OBJECTS = 300;
    private static final int CALLS = 512;
    private static final int MOST_SHOWN = 20;

    private static int wrong = 0;
    private static long seed = 20261115L;

    /** Knows nothing of the program: rules over arrays of values, the game by recursion. */
    private static final class Model {
        final int[] side = new int[8];
        final int[][] rules = new int[12][];
        int number = 0;

        int rule(int kind, int p, int q) {
            if (number == 12) {
                return -2;
            }
            if (kind < 0 || kind > 3 || p < 0 || p > 255
                    || kind == 0 && (q < 0 || q > 255)
                    || kind == 1 && (q < 0 || q > 1 || Integer.bitCount(p) > 4)
                    || kind == 2 && (q < 0 || q > 4 || Integer.bitCount(p) > 5)) {
                return -1;
            }
            rules[number] = new int[] {kind, p, q};
            return ++number;
        }

        int drop(int i) {
            if (i < 0 || i >= number) {
                return -1;
            }
            System.arraycopy(rules, i + 1, rules, i, number - 1 - i);
            return --number;
        }

        static boolean says(int[] rule, int values) {
            int ones = 0;
            int zeros = 0;
            boolean zeroInQ = false;
            for (int v = 0; v < 8; v++) {
                boolean one = (values >> v) % 2 == 1;
                if ((rule[1] >> v) % 2 == 1) {
                    ones += one ? 1 : 0;
                    zeros += one ? 0 : 1;
                }
                zeroInQ |= rule[0] == 0 && (rule[2] >> v) % 2 == 1 && !one;
            }
            return switch (rule[0]) {
                case 0 -> ones > 0 || zeroInQ;
                case 1 -> ones % 2 == rule[2];
                case 2 -> ones <= rule[2];
                default -> ones == 0 || zeros == 0;
            };
        }

        boolean all(int set, int values) {
            for (int i = 0; i < number; i++) {
                if ((set >> i) % 2 == 1 && !says(rules[i], values)) {
                    return false;
                }
            }
            return true;
        }

        int every() {
            return (1 << number) - 1;
        }

        boolean win(int set, int k, int values) {
            if (k == 8) {
                return all(set, values);
            }
            boolean zero = win(set, k + 1, values);
            boolean one = win(set, k + 1, values + (1 << k));
            return side[k] == 0 ? zero || one : zero && one;
        }

        int move(int k, int values) {
            if (k < 0 || k > 7 || values < 0 || values > (1 << k) - 1) {
                return -1;
            }
            for (int value = 0; value < 2; value++) {
                int winner = win(every(), k + 1, values + (value << k)) ? 0 : 1;
                if (winner == side[k]) {
                    return value;
                }
            }
            return -3;
        }

        int won(int k, int values) {
            if (k < 0 || k > 8 || values < 0 || values > (1 << k) - 1) {
                return -1;
            }
            return win(every(), k, values) ? 1 : 0;
        }

        int count() {
            int n = 0;
            for (int values = 0; values < 256; values++) {
                n += all(every(), values) ? 1 : 0;
            }
            return n;
        }

        int idle() {
            int set = 255;
            for (int values = 0; values < 256; values++) {
                for (int v = 0; v < 8; v++) {
                    int zero = values & ~(1 << v);
                    if (all(every(), zero) != all(every(), zero + (1 << v))) {
                        set &= ~(1 << v);
                    }
                }
            }
            return set;
        }

        int openings() {
            int k = 8;
            for (int v = 7; v > 0; v--) {
                if (side[v] != side[0]) {
                    k = v;
                }
            }
            int n = 0;
            for (int values = 0; values < Math.pow(2, k); values++) {
                n += won(k, values);
            }
            return n;
        }

        int blame() {
            int set = every();
            if (win(set, 0, 0)) {
                return 0;
            }
            for (int i = 0; i < number; i++) {
                if (!win(set - (1 << i), 0, 0)) {
                    set -= 1 << i;
                }
            }
            return set;
        }

        int decided() {
            int played = 0;
            for (int k = 0; k < 8; k++) {
                played += Math.max(0, move(k, played)) << k;
            }
            for (int k = 0; k < 8; k++) {
                int ours = 0;
                int theirs = 0;
                for (int values = 0; values < 256; values++) {
                    if (values % (1 << k) == played % (1 << k)) {
                        if (all(every(), values)) {
                            ours++;
                        } else {
                            theirs++;
                        }
                    }
                }
                if (ours == 0 || theirs == 0) {
                    return k;
                }
            }
            return 8;
        }

        int needless() {
            int set = every();
            for (int i = 0; i < number; i++) {
                for (int values = 0; values < 256; values++) {
                    if (all(every(), values) != all(every() - (1 << i), values)) {
                        set &= ~(1 << i);
                    }
                }
            }
            return set;
        }
    }

    private static int next(int below) {
        seed = seed * 6364136223846793005L + 1442695040888963407L;
        return (int) ((seed >>> 33) % below);
    }

    /** Mostly from low to high, now and then a little or far outside. */
    private static int around(int low, int high) {
        int turn = next(40);
        return switch (turn) {
            case 0 -> low - 1;
            case 1 -> high + 1;
            case 2 -> (int) (seed >>> 32);
            default -> low + next(high - low + 1);
        };
    }

    private static int someSet(int most) {
        int set = next(12) == 0 ? around(0, 255) : next(256) & (next(2) == 0 ? next(256) : 255);
        while (most < 8 && next(20) != 0 && Integer.bitCount(set & 255) > most) {
            set &= set - 1;
        }
        return set;
    }

    private static void due(String call, int got, int want) {
        if (got != want) {
            wrong++;
            if (wrong <= MOST_SHOWN) {
                System.out.println(call + " answered " + got + ", due is " + want);
            }
        }
    }

    private static void change(String at, QuantifiedGame x, Model m) {
        switch (next(6)) {
            case 0 -> {
                int v = around(0, 7);
                int side = around(0, 1);
                boolean good = v >= 0 && v <= 7 && side >= 0 && side <= 1;
                due(at + "give(" + v + ", " + side + ")", x.give(v, side) ? 1 : 0, good ? 1 : 0);
                if (good) {
                    m.side[v] = side;
                }
            }
            case 1, 2 -> {
                int kind = around(0, 3);
                int p = someSet(kind == 1 ? 4 : kind == 2 ? 5 : 8);
                int q = kind == 1 ? around(0, 1) : kind == 2 ? around(0, 4) : someSet(8);
                due(at + "rule(" + kind + ", " + p + ", " + q + ")", x.rule(kind, p, q), m.rule(kind, p, q));
            }
            case 3 -> {
                int i = m.number > 0 && next(3) > 0 ? next(m.number) : around(0, 12);
                due(at + "drop(" + i + ")", x.drop(i), m.drop(i));
            }
            default -> {
                int k = around(0, 2);
                due(at + "way(" + k + ")", x.way(k) ? 1 : 0, k >= 0 && k <= 2 ? 1 : 0);
            }
        }
    }

    private static void question(String at, QuantifiedGame x, Model m) {
        int k = around(0, 8);
        int values = around(0, k >= 0 && k <= 8 ? (1 << k) - 1 : 255);
        switch (next(9)) {
            case 0 -> due(at + "holds(" + values + ")", x.holds(values) ? 1 : 0,
                values >= 0 && values <= 255 && m.all(m.every(), values) ? 1 : 0);
            case 1 -> due(at + "won(" + k + ", " + values + ")", x.won(k, values), m.won(k, values));
            case 2 -> due(at + "move(" + k + ", " + values + ")", x.move(k, values), m.move(k, values));
            case 3 -> due(at + "count()", x.count(), m.count());
            case 4 -> due(at + "idle()", x.idle(), m.idle());
            case 5 -> due(at + "openings()", x.openings(), m.openings());
            case 6 -> due(at + "blame()", x.blame(), m.blame());
            case 7 -> due(at + "decided()", x.decided(), m.decided());
            default -> due(at + "needless()", x.needless(), m.needless());
        }
    }

    private static void longRun(int object) {
        QuantifiedGame x = new QuantifiedGame();
        Model m = new Model();
        for (int call = 0; call < CALLS; call++) {
            String at = "object " + object + ", call " + call + ": ";
            if (next(3) == 0) {
                change(at, x, m);
            } else {
                question(at, x, m);
            }
        }
    }

    /** An object in the state of the model: no object may get more calls than the document allows. */
    private static QuantifiedGame like(Model m, int way) {
        QuantifiedGame x = new QuantifiedGame();
        due("way(" + way + ")", x.way(way) ? 1 : 0, 1);
        for (int v = 0; v < 8; v++) {
            due("give(" + v + ", " + m.side[v] + ")", x.give(v, m.side[v]) ? 1 : 0, 1);
        }
        for (int i = 0; i < m.number; i++) {
            due("rule " + i, x.rule(m.rules[i][0], m.rules[i][1], m.rules[i][2]), i + 1);
        }
        return x;
    }

    /** Rules alone, all of kinds 1 to 3 and many of kind 0, in every way: all lists of values. */
    private static void singleRules() {
        for (int kind = 0; kind < 4; kind++) {
            for (int p = 0; p < 256; p++) {
                int step = kind == 0 ? 1 + p % 7 : 1;
                for (int q = 0; q <= (kind == 0 ? 255 : kind == 1 ? 1 : kind == 2 ? 4 : 0); q += step) {
                    singleRule(kind, p, q);
                }
            }
        }
    }

    private static void singleRule(int kind, int p, int q) {
        Model m = new Model();
        int answer = m.rule(kind, p, q);
        String rule = "rule(" + kind + ", " + p + ", " + q + ")";
        due(rule, new QuantifiedGame().rule(kind, p, q), answer);
        for (int way = 0; answer == 1 && way < 3; way++) {
            QuantifiedGame x = like(m, way);
            for (int values = 0; values < 256; values++) {
                boolean held = x.holds(values);
                if (held != Model.says(m.rules[0], values)) {
                    due(rule + ", way " + way + ": holds(" + values + ")", held ? 1 : 0, held ? 0 : 1);
                }
            }
        }
    }

    /** Every division of the variables between the sides, in every way: every start. */
    private static void everyDivision() {
        for (int theirs = 0; theirs < 256; theirs++) {
            Model m = new Model();
            for (int v = 0; v < 8; v++) {
                m.side[v] = theirs >> v & 1;
            }
            m.rule(0, next(256) | next(256), next(256));
            m.rule(1, next(16) << theirs % 5, 1);
            m.rule(2, 31 << theirs % 4, 3);
            m.rule(3, 3 << theirs % 7, 0);
            // Games that are won by us at first say more about the starts within them.
            while (m.number > 1 && !m.win(m.every(), 0, 0)) {
                m.drop(next(m.number));
            }
            for (int way = 0; way < 3; way++) {
                everyStart("theirs " + theirs + ", way " + way + ": ", m, way);
            }
        }
    }

    private static void everyStart(String at, Model m, int way) {
        for (int k = 0; k <= 8; k++) {
            QuantifiedGame x = like(m, way);
            for (int values = 0; values < 1 << k; values++) {
                String start = "(" + k + ", " + values + ")";
                due(at + "won" + start, x.won(k, values), m.won(k, values));
                if (k < 8) {
                    due(at + "move" + start, x.move(k, values), m.move(k, values));
                }
            }
        }
    }

    public static void main(String[] args) {
        singleRules();
        everyDivision();
        for (int object = 0; object < OBJECTS; object++) {
            longRun(object);
        }
        System.out.println(wrong == 0 ? "all answers are as due" : wrong + " answers are not as due");
        if (wrong != 0) {
            System.exit(1);
        }
    }
}
