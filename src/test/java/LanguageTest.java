import java.io.IOException;
import java.lang.reflect.Field;
import java.lang.reflect.Method;
import java.lang.reflect.Modifier;
import java.nio.file.Files;
import java.nio.file.Path;
import java.util.HashSet;
import java.util.Set;
import java.util.regex.Matcher;
import java.util.regex.Pattern;

/** The rules of LANGUAGE.md, as far as the source's words and the compiled class show them. */
public final class LanguageTest {
    private static final Path SOURCE = Path.of("src/main/java/DottedSiblings.java");

    // The class has no use for what rules 2, 4, 6 and 13 allow of these, so none of them stands in it.
    private static final Pattern FOREIGN = Pattern.compile(
            "\\b(package|import|throws?|try|catch|finally|synchronized|assert|volatile|transient|native|strictfp"
            + "|var|float|double|Object|Thread|Runtime|System|Random|Iterator|\\w+Exact|java)\\b|->|::|@|\"\"\"");
    private static final Pattern LIBRARY = Pattern.compile("\\b([A-Z][a-z]\\w*)\\b");
    private static final Set<String> LISTED = Set.of("DottedSiblings", "Long", "Math");

    private static final int MOST_PARAMETERS = 7;
    private static final int MOST_LINES = 60;
    private static final int MOST_FIELDS = 20;

    private static final Due due = new Due();

    private LanguageTest() {
    }

    public static void main(String[] args) throws IOException {
        // Texts hold characters 0 to 255 alone; the source needs none above 127.
        String source = Files.readString(SOURCE);
        due.is("characters that are not plain", true, source.chars().allMatch(c -> c < 128));
        String code = withoutComments(source);
        wordsAreOfTheLanguage(code);
        methodsAreShort(code);
        noPrivateMethodBearsAPublicName();
        staticFieldsAreConstants();
        fieldsAreFewAndOfNumbers();
        classesInsideAreStaticAndNotPublic();
        due.end();
    }

    private static String withoutComments(String source) {
        return source.replaceAll("(?s)/\\*.*?\\*/", "").replaceAll("//[^\n]*", "");
    }

    private static void wordsAreOfTheLanguage(String code) {
        Matcher foreign = FOREIGN.matcher(code);
        while (foreign.find()) {
            due.is("rules 2, 4, 6, 13: the source has the word " + foreign.group(), false, true);
        }
        Matcher library = LIBRARY.matcher(code);
        while (library.find()) {
            due.is("rule 4: the source uses " + library.group(1), true, LISTED.contains(library.group(1)));
        }
    }

    // A method of the class begins and ends at the fourth column.
    private static void methodsAreShort(String code) {
        Matcher method = Pattern.compile("(?ms)^    (public|private)[^;=]*?\\{$.*?^    \\}$").matcher(code);
        int found = 0;
        while (method.find()) {
            found++;
            String text = method.group();
            due.is("rule 11: lines of " + text.lines().findFirst().get(), true, text.lines().count() <= MOST_LINES);
        }
        int declared = DottedSiblings.class.getDeclaredMethods().length + DottedSiblings.class.getDeclaredConstructors().length;
        due.is("methods whose lines were counted", declared, found);
    }

    private static void noPrivateMethodBearsAPublicName() {
        Set<String> names = new HashSet<>();
        for (Method method : DottedSiblings.class.getDeclaredMethods()) {
            due.is("rule 1: a second method " + method.getName(), true, names.add(method.getName()));
            due.is("rule 11: parameters of " + method, true, method.getParameterCount() <= MOST_PARAMETERS);
        }
    }

    private static void staticFieldsAreConstants() {
        Set<Class<?>> allowed = Set.of(int.class, long.class, boolean.class, char.class, String.class);
        for (Field field : DottedSiblings.class.getDeclaredFields()) {
            if (Modifier.isStatic(field.getModifiers())) {
                due.is("rule 5: final " + field, true, Modifier.isFinal(field.getModifiers()));
                due.is("rule 5: the type of " + field, true, allowed.contains(field.getType()));
            }
        }
    }

    private static void fieldsAreFewAndOfNumbers() {
        Set<Class<?>> allowed = Set.of(int.class, int[].class, int[][].class, long[][].class);
        int count = 0;
        for (Field field : DottedSiblings.class.getDeclaredFields()) {
            if (!Modifier.isStatic(field.getModifiers())) {
                count++;
                due.is("rule 3: the type of " + field, true, allowed.contains(field.getType()));
            }
        }
        due.is("rule 11: " + count + " fields", true, count <= MOST_FIELDS);
    }

    private static void classesInsideAreStaticAndNotPublic() {
        for (Class<?> inside : DottedSiblings.class.getDeclaredClasses()) {
            int modifiers = inside.getModifiers();
            due.is("rule 1: static " + inside, true, Modifier.isStatic(modifiers));
            due.is("rule 1: hidden " + inside, false, Modifier.isPublic(modifiers) || Modifier.isProtected(modifiers));
        }
    }
}
