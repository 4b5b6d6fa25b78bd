import java.io.IOException;
import java.lang.reflect.Method;
import java.lang.reflect.Modifier;
import java.nio.file.Files;
import java.nio.file.Path;
import java.util.ArrayList;
import java.util.List;
import java.util.Set;
import java.util.TreeSet;
import java.util.regex.Matcher;
import java.util.regex.Pattern;

/**
 * What README.md shows as calls and their answers is what the class answers. Every line of its
 * Java examples has to be understood here, so that none is shown and not tested.
 */
public final class ReadmeTest {
    private static final String NEW_OBJECT = "DimerCounter x = new DimerCounter();";
    private static final Pattern CALL =
            Pattern.compile("x\\.(\\w+)\\(([^)]*)\\); +// (-?\\d+|true|false|no answer)(: .*)?");

    private static final Check check = new Check("ReadmeTest");
    private static final Set<String> shown = new TreeSet<>();

    private static DimerCounter x;

    public static void main(String[] args) throws IOException {
        for (String line : linesOfExamples(Files.readAllLines(Path.of("README.md")))) {
            tryLine(line);
        }
        for (Method method : DimerCounter.class.getDeclaredMethods()) {
            if (Modifier.isPublic(method.getModifiers())) {
                check.that("README.md shows " + method.getName(), shown.contains(method.getName()));
            }
        }
        check.end();
    }

    private static List<String> linesOfExamples(List<String> lines) {
        List<String> found = new ArrayList<>();
        boolean inside = false;
        for (String line : lines) {
            if (line.startsWith("```")) {
                inside = line.equals("```java");
            } else if (inside) {
                found.add(line);
            }
        }
        return found;
    }

    private static void tryLine(String line) {
        if (line.equals(NEW_OBJECT)) {
            x = new DimerCounter();
            return;
        }
        Matcher call = CALL.matcher(line);
        boolean understood = call.matches() && x != null;
        check.that("README.md, a call on x with its answer: " + line, understood);
        if (understood) {
            shown.add(call.group(1));
            String got = answerOf(call.group(1), numbersIn(call.group(2)));
            check.that("README.md, " + line + " (the class answers " + got + ")", got.equals(call.group(3)));
        }
    }

    private static int[] numbersIn(String arguments) {
        return Pattern.compile("-?\\d+").matcher(arguments).results()
                .mapToInt(number -> Integer.parseInt(number.group())).toArray();
    }

    private static String answerOf(String name, int[] numbers) {
        Class<?>[] types = new Class<?>[numbers.length];
        Object[] values = new Object[numbers.length];
        for (int i = 0; i < numbers.length; i++) {
            types[i] = int.class;
            values[i] = numbers[i];
        }
        try {
            Object answer = DimerCounter.class.getMethod(name, types).invoke(x, values);
            return answer == null ? "no answer" : answer.toString();
        } catch (ReflectiveOperationException e) {
            return e.toString();
        }
    }
}
