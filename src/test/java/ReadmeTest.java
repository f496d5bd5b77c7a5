import java.io.IOException;
import java.lang.reflect.Method;
import java.nio.file.Files;
import java.nio.file.Path;
import java.util.regex.Matcher;
import java.util.regex.Pattern;

/**
 * The calls that README.md shows answer what it says beside them, and it tells
 * of every method. Reads README.md from the project's directory.
 */
public final class ReadmeTest {
    private static final Pattern SHOWN_CALL = Pattern.compile("desk\\.(\\w+)\\(([^)]*)\\);\\s*// ([\\w-]+).*");
    private static final int FEWEST_CALLS = 10;

    private static int wrong = 0;

    private static void report(String text) {
        wrong++;
        System.out.println(text);
    }

    private static int number(String text) {
        return text.startsWith("0b") ? Integer.parseInt(text.substring(2), 2) : Integer.parseInt(text);
    }

    private static Object[] arguments(String text) {
        if (text.isEmpty()) {
            return new Object[0];
        }
        String[] parts = text.split(", ");
        Object[] numbers = new Object[parts.length];
        for (int n = 0; n < parts.length; n++) {
            numbers[n] = number(parts[n]);
        }
        return numbers;
    }

    private static Method method(String name) throws NoSuchMethodException {
        for (Method m : FountainDesk.class.getDeclaredMethods()) {
            if (m.getName().equals(name)) {
                return m;
            }
        }
        throw new NoSuchMethodException(name);
    }

    private static String answerShown(String text) {
        return switch (text) {
            case "NONE" -> "" + FountainDesk.NONE;
            case "FULL" -> "" + FountainDesk.FULL;
            case "REFUSED" -> "" + FountainDesk.REFUSED;
            default -> text;
        };
    }

    private static void checkCalls(String readme) throws ReflectiveOperationException {
        FountainDesk desk = new FountainDesk();
        int calls = 0;
        for (Matcher shown = SHOWN_CALL.matcher(readme); shown.find(); calls++) {
            Object got = method(shown.group(1)).invoke(desk, arguments(shown.group(2)));
            if (!got.toString().equals(answerShown(shown.group(3)))) {
                report(shown.group() + " answered " + got);
            }
        }
        if (calls < FEWEST_CALLS) {
            report("only " + calls + " calls are shown: are they still read aright?");
        }
    }

    private static void checkNames(String readme) {
        for (Method m : FountainDesk.class.getMethods()) {
            boolean own = m.getDeclaringClass() == FountainDesk.class;
            if (own && !readme.contains("| `" + m.getName() + "(")) {
                report("the table has no row for " + m.getName());
            }
        }
    }

    public static void main(String[] args) throws IOException, ReflectiveOperationException {
        String readme = Files.readString(Path.of("README.md"));
        checkCalls(readme);
        checkNames(readme);
        System.out.println(wrong == 0 ? "README.md is as due" : wrong + " things in README.md are not as due");
        if (wrong != 0) {
            System.exit(1);
        }
    }
}
