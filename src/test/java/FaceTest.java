import java.lang.reflect.Constructor;
import java.lang.reflect.Field;
import java.lang.reflect.Method;
import java.lang.reflect.Modifier;
import java.util.HashSet;
import java.util.Set;
import java.util.TreeSet;

/** The public face is the document's and nothing more, and the fields keep to LANGUAGE.md. */
public final class FaceTest {
    private static final Set<String> FACE = Set.of(
        "public static final int BAD", "public static final int FULL", "public static final int NONE",
        "public QuantifiedGame()",
        "public boolean QuantifiedGame.give(int,int)", "public int QuantifiedGame.rule(int,int,int)",
        "public int QuantifiedGame.drop(int)", "public boolean QuantifiedGame.holds(int)",
        "public int QuantifiedGame.won(int,int)", "public int QuantifiedGame.move(int,int)",
        "public int QuantifiedGame.count()", "public int QuantifiedGame.idle()",
        "public int QuantifiedGame.openings()", "public int QuantifiedGame.blame()",
        "public int QuantifiedGame.decided()", "public int QuantifiedGame.needless()",
        "public boolean QuantifiedGame.way(int)");
    private static final int MOST_PARAMETERS = 7;
    private static final int MOST_FIELDS = 40;

    private static int wrong = 0;

    private static void expect(boolean good, String what) {
        if (!good) {
            wrong++;
            System.out.println(what);
        }
    }

    private static Set<String> visibleMembers(Class<?> c) {
        Set<String> seen = new TreeSet<>();
        for (Field f : c.getDeclaredFields()) {
            if (!Modifier.isPrivate(f.getModifiers())) {
                seen.add(Modifier.toString(f.getModifiers()) + " " + f.getType() + " " + f.getName());
            }
        }
        for (Constructor<?> k : c.getDeclaredConstructors()) {
            if (!Modifier.isPrivate(k.getModifiers())) {
                seen.add(k.toString());
            }
        }
        for (Method m : c.getDeclaredMethods()) {
            if (!Modifier.isPrivate(m.getModifiers())) {
                seen.add(m.toString());
            }
        }
        return seen;
    }

    private static void checkFields(Class<?> c) {
        int beside = 0;
        for (Field f : c.getDeclaredFields()) {
            Class<?> type = f.getType();
            Class<?> unit = type.isArray() ? type.getComponentType() : type;
            expect(unit.isPrimitive() && unit != float.class && unit != double.class, "type of " + f);
            if (Modifier.isStatic(f.getModifiers())) {
                boolean constant = Modifier.isFinal(f.getModifiers()) && (type == int.class || type == long.class);
                expect(constant, "no constant: " + f);
            } else {
                beside++;
            }
        }
        expect(beside <= MOST_FIELDS, "too many fields: " + beside);
    }

    private static void checkMethods(Class<?> c) {
        Set<String> names = new HashSet<>();
        for (Method m : c.getDeclaredMethods()) {
            expect(names.add(m.getName()), "two methods named " + m.getName());
            expect(m.getParameterCount() <= MOST_PARAMETERS, "too many parameters: " + m);
            expect(!m.getReturnType().isArray(), "answers an array: " + m);
        }
    }

    public static void main(String[] args) {
        Class<?> c = QuantifiedGame.class;
        expect(Modifier.isPublic(c.getModifiers()) && Modifier.isFinal(c.getModifiers()), "not public and final");
        expect(c.getDeclaredClasses().length == 0, "a nested class");
        Set<String> seen = visibleMembers(c);
        expect(seen.equals(FACE), "the face is " + seen + ", due is " + new TreeSet<>(FACE));
        checkFields(c);
        checkMethods(c);
        System.out.println(wrong == 0 ? "the face is as due" : wrong + " things are not as due");
        if (wrong != 0) {
            System.exit(1);
        }
    }
}
