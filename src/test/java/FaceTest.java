import java.lang.reflect.Constructor;
import java.lang.reflect.Field;
import java.lang.reflect.Method;
import java.lang.reflect.Modifier;
import java.util.Set;
import java.util.TreeSet;

/** The class shows the document's face and nothing beside it. */
public final class FaceTest {
    private static final String[] FACE = {
        "public static final int DottedSiblings.NONE",
        "public DottedSiblings(int,int)",
        "public int DottedSiblings.get(int,int,int)",
        "public long DottedSiblings.read(int,int,int)",
        "public int DottedSiblings.put(int,int,int,int)",
        "public boolean DottedSiblings.sync(int,int,int)",
        "public boolean DottedSiblings.forget(int,int)",
        "public int DottedSiblings.siblings(int,int)",
        "public long DottedSiblings.sibling(int,int,int,int)",
        "public int DottedSiblings.known(int,int,int)",
        "public int DottedSiblings.context(int,int,int)",
        "public boolean DottedSiblings.sees(int,int,int)",
        "public boolean DottedSiblings.same(int,int,int)",
        "public int DottedSiblings.weight(int,int)",
    };

    private FaceTest() {
    }

    public static void main(String[] args) {
        Due due = new Due();
        Set<String> shown = new TreeSet<>();
        for (Field field : DottedSiblings.class.getDeclaredFields()) {
            if (!Modifier.isPrivate(field.getModifiers())) {
                shown.add(field.toString());
            }
        }
        for (Constructor<?> constructor : DottedSiblings.class.getDeclaredConstructors()) {
            if (!Modifier.isPrivate(constructor.getModifiers())) {
                shown.add(constructor.toString());
            }
        }
        for (Method method : DottedSiblings.class.getDeclaredMethods()) {
            if (!Modifier.isPrivate(method.getModifiers())) {
                shown.add(method.toString());
            }
        }
        due.is("the face", new TreeSet<>(Set.of(FACE)).toString(), shown.toString());
        due.is("the class", "public final", Modifier.toString(DottedSiblings.class.getModifiers()));
        due.is("what it extends", "class java.lang.Object", DottedSiblings.class.getSuperclass().toString());
        due.is("what it implements", 0, DottedSiblings.class.getInterfaces().length);
        due.is("NONE", -1, DottedSiblings.NONE);
        due.end();
    }
}
