import java.lang.reflect.Array;
import java.lang.reflect.Field;
import java.lang.reflect.Modifier;

/**
 * What no answer can show: the way of a new object, the way after a call of way, and that a refused
 * call changes nothing. It compares all private fields of objects, whatever they are.
 */
public final class StateTest {
    private static final int[] SIDES_OUTSIDE = {-1, 2, Integer.MIN_VALUE, Integer.MAX_VALUE};
    private static final int[] VARIABLES_OUTSIDE = {-1, 8, Integer.MIN_VALUE, Integer.MAX_VALUE};
    private static final int[] WAYS_OUTSIDE = {-1, 3, Integer.MIN_VALUE, Integer.MAX_VALUE};
    private static final int[][] BAD_RULES = {
        {-1, 0, 0}, {4, 0, 0}, {0, -1, 0}, {0, 256, 0}, {0, 0, -1}, {0, 0, 256}, {1, 31, 0}, {1, 15, 2}, {1, 15, -1},
        {2, 63, 0}, {2, 31, 5}, {2, 31, -1}, {3, -1, 0}, {3, 256, 0}};

    private static int wrong = 0;

    private static String state(QuantifiedGame x) {
        StringBuilder all = new StringBuilder();
        try {
            for (Field f : QuantifiedGame.class.getDeclaredFields()) {
                if (!Modifier.isStatic(f.getModifiers())) {
                    f.setAccessible(true);
                    append(all.append(f.getName()).append(' '), f.get(x));
                }
            }
        } catch (IllegalAccessException e) {
            throw new IllegalStateException(e);
        }
        return all.toString();
    }

    private static void append(StringBuilder all, Object value) {
        if (value.getClass().isArray()) {
            for (int i = 0; i < Array.getLength(value); i++) {
                all.append(Array.get(value, i)).append(' ');
            }
        } else {
            all.append(value).append(' ');
        }
    }

    private static void expect(String what, boolean good) {
        if (!good) {
            wrong++;
            System.out.println(what);
        }
    }

    /** An object with so many rules, some of their variables and a way. */
    private static QuantifiedGame game(int rules, int way) {
        QuantifiedGame x = new QuantifiedGame();
        x.way(way);
        x.give(1, 1);
        x.give(6, 1);
        for (int i = 0; i < rules; i++) {
            x.rule(i % 4, 3 << i % 7, i % 2);
        }
        return x;
    }

    private static void newObjectHasWay2() {
        String fresh = state(new QuantifiedGame());
        for (int k = 0; k <= 2; k++) {
            QuantifiedGame x = new QuantifiedGame();
            x.way(k);
            expect("a new object after way(" + k + ")", state(x).equals(fresh) == (k == 2));
        }
    }

    private static void wayIsKept() {
        for (int from = 0; from <= 2; from++) {
            for (int to = 0; to <= 2; to++) {
                QuantifiedGame x = game(5, from);
                x.way(to);
                expect("way " + from + " and then " + to, state(x).equals(state(game(5, to))));
            }
        }
    }

    private static void refusedCallsChangeNothing(int rules, int way) {
        QuantifiedGame x = game(rules, way);
        String before = state(x);
        for (int v = 0; v < 8; v++) {
            for (int side : SIDES_OUTSIDE) {
                x.give(v, side);
            }
        }
        for (int v : VARIABLES_OUTSIDE) {
            x.give(v, 0);
            x.give(v, 1);
        }
        expect("refused gives, " + rules + " rules, way " + way, state(x).equals(before));
        for (int[] bad : BAD_RULES) {
            x.rule(bad[0], bad[1], bad[2]);
        }
        if (rules == 12) {
            x.rule(0, 255, 255);
        }
        expect("refused rules, " + rules + " rules, way " + way, state(x).equals(before));
        for (int i : new int[] {-1, rules, 12, Integer.MIN_VALUE, Integer.MAX_VALUE}) {
            x.drop(i);
        }
        expect("refused drops, " + rules + " rules, way " + way, state(x).equals(before));
        for (int k : WAYS_OUTSIDE) {
            x.way(k);
        }
        expect("refused ways, " + rules + " rules, way " + way, state(x).equals(before));
    }

    public static void main(String[] args) {
        newObjectHasWay2();
        wayIsKept();
        for (int way = 0; way <= 2; way++) {
            for (int rules = 0; rules <= 12; rules++) {
                refusedCallsChangeNothing(rules, way);
            }
        }
        System.out.println(wrong == 0 ? "all states are as due" : wrong + " states are not as due");
        if (wrong != 0) {
            System.exit(1);
        }
    }
}
