import java.io.IOException;
import java.lang.reflect.Method;
import java.lang.reflect.Modifier;
import java.nio.file.Files;
import java.nio.file.Path;
import java.util.Arrays;
import java.util.List;
import java.util.Set;
import java.util.TreeSet;
import java.util.regex.Matcher;
import java.util.regex.Pattern;

/** What README.md says a call answers is what the call answers, and it tells every call of the face. */
public final class ReadmeTest {
    private static final Pattern MADE = Pattern.compile("DottedSiblings store = new DottedSiblings\\((\\d+), (\\d+)\\);.*");
    private static final Pattern CALLED = Pattern.compile("store\\.(\\w+)\\(([^)]*)\\); +// ([\\w.-]+)(: .*)?");
    private static final Pattern LISTED = Pattern.compile("\\| `(\\w+)\\(([^)]*)\\)` \\|.*\\| `([\\w.-]+)` \\|");

    private static final Due due = new Due();

    private ReadmeTest() {
    }

    public static void main(String[] args) throws IOException, ReflectiveOperationException {
        List<String> lines = Files.readAllLines(Path.of("README.md"));
        String face = namesOfTheFace().toString();
        due.is("the calls of the example", face, exampleAnswersAsItSays(lines).toString());
        due.is("the calls of the table", face, tableAnswersAsItSays(lines).toString());
        due.end();
    }

    private static Set<String> namesOfTheFace() {
        Set<String> names = new TreeSet<>();
        for (Method method : DottedSiblings.class.getDeclaredMethods()) {
            if (Modifier.isPublic(method.getModifiers())) {
                names.add(method.getName());
            }
        }
        return names;
    }

    /** The names of the calls that the example makes. */
    private static Set<String> exampleAnswersAsItSays(List<String> lines) throws ReflectiveOperationException {
        Set<String> names = new TreeSet<>();
        DottedSiblings store = null;
        for (String line : lines) {
            Matcher made = MADE.matcher(line);
            if (made.matches()) {
                store = new DottedSiblings(Integer.parseInt(made.group(1)), Integer.parseInt(made.group(2)));
            }
            Matcher called = CALLED.matcher(line);
            boolean told = called.matches();
            // A line of the example without an answer would go unchecked.
            due.is("README.md has an answer in: " + line, line.startsWith("store."), told);
            if (told) {
                names.add(called.group(1));
                due.is(line, called.group(3), answer(store, called.group(1), numbers(called.group(2))));
            }
        }
        return names;
    }

    /** The names of the calls that the table lists; each is asked of parties that are never there. */
    private static Set<String> tableAnswersAsItSays(List<String> lines) throws ReflectiveOperationException {
        Set<String> names = new TreeSet<>();
        for (String line : lines) {
            Matcher listed = LISTED.matcher(line);
            if (listed.matches()) {
                names.add(listed.group(1));
                Object[] wrong = new Object[listed.group(2).split(", ").length];
                Arrays.fill(wrong, -1);
                due.is(line, listed.group(3), answer(new DottedSiblings(4, 4), listed.group(1), wrong));
            }
        }
        return names;
    }

    private static Object[] numbers(String arguments) {
        String[] texts = arguments.split(", ");
        Object[] numbers = new Object[texts.length];
        for (int k = 0; k < texts.length; k++) {
            numbers[k] = Integer.valueOf(texts[k]);
        }
        return numbers;
    }

    /** The answer as README.md writes it. */
    private static String answer(DottedSiblings store, String name, Object[] arguments) throws ReflectiveOperationException {
        Class<?>[] types = new Class<?>[arguments.length];
        Arrays.fill(types, int.class);
        Object answer = DottedSiblings.class.getMethod(name, types).invoke(store, arguments);
        if (answer.equals(DottedSiblings.NONE)) {
            return "NONE";
        }
        return answer.equals(Long.MIN_VALUE) ? "Long.MIN_VALUE" : answer.toString();
    }
}
