import java.lang.reflect.Method;
import java.lang.reflect.Modifier;
import java.nio.file.Files;
import java.nio.file.Path;
import java.util.Set;
import java.util.TreeSet;
import java.util.regex.Matcher;
import java.util.regex.Pattern;

/** The calls that README.md shows, one after the other on one object, answer what it says. */
public final class ReadmeTest {
    private static final Pattern CALL = Pattern.compile("x\\.(\\w+)\\(([^)]*)\\);\\s*// ([\\w-]+).*");

    private static int wrong = 0;

    private static void expect(boolean good, String what) {
        if (!good) {
            wrong++;
            System.out.println(what);
        }
    }

    private static Object told(String word) {
        return switch (word) {
            case "true", "false" -> Boolean.valueOf(word);
            case "BAD" -> QuantifiedGame.BAD;
            case "FULL" -> QuantifiedGame.FULL;
            case "NONE" -> QuantifiedGame.NONE;
            default -> Integer.valueOf(word);
        };
    }

    private static Object answer(QuantifiedGame x, String name, String arguments) throws ReflectiveOperationException {
        String[] words = arguments.isEmpty() ? new String[0] : arguments.split(", ");
        Class<?>[] types = new Class<?>[words.length];
        Object[] numbers = new Object[words.length];
        for (int i = 0; i < words.length; i++) {
            types[i] = int.class;
            numbers[i] = Integer.valueOf(words[i]);
        }
        return QuantifiedGame.class.getMethod(name, types).invoke(x, numbers);
    }

    private static Set<String> publicMethods() {
        Set<String> names = new TreeSet<>();
        for (Method m : QuantifiedGame.class.getDeclaredMethods()) {
            if (Modifier.isPublic(m.getModifiers())) {
                names.add(m.getName());
            }
        }
        return names;
    }

    public static void main(String[] args) throws Exception {
        QuantifiedGame x = new QuantifiedGame();
        Set<String> unshown = publicMethods();
        for (String line : Files.readAllLines(Path.of("README.md"))) {
            Matcher call = CALL.matcher(line);
            if (call.matches()) {
                Object got = answer(x, call.group(1), call.group(2));
                expect(got.equals(told(call.group(3))), "it answers " + got + ": " + line);
                unshown.remove(call.group(1));
            } else {
                // A line that the pattern misses would not be tested.
                expect(!line.startsWith("x."), "no call with its answer: " + line);
            }
        }
        expect(unshown.isEmpty(), "README.md does not show " + unshown);
        System.out.println(wrong == 0 ? "README.md is as due" : wrong + " things are not as due");
        if (wrong != 0) {
            System.exit(1);
        }
    }
}
