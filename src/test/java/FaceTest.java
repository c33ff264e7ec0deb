import java.lang.reflect.Constructor;
import java.lang.reflect.Field;
import java.lang.reflect.Method;
import java.lang.reflect.Modifier;
import java.util.Set;
import java.util.TreeSet;

/** The class shows the document's public face, and nothing of it that is not private besides. */
public final class FaceTest {
    private static final String[] FACE = {
        "public static final int FuzzyTypeahead.BAD_ARG",
        "public static final int FuzzyTypeahead.FULL",
        "public static final int FuzzyTypeahead.NONE",
        "public FuzzyTypeahead(int)",
        "public int FuzzyTypeahead.draft(int)",
        "public void FuzzyTypeahead.scrap()",
        "public int FuzzyTypeahead.add(int)",
        "public int FuzzyTypeahead.remove()",
        "public int FuzzyTypeahead.weight()",
        "public int FuzzyTypeahead.words()",
        "public int FuzzyTypeahead.type(int)",
        "public int FuzzyTypeahead.backspace()",
        "public void FuzzyTypeahead.reset()",
        "public int FuzzyTypeahead.length()",
        "public int FuzzyTypeahead.offered()",
        "public int FuzzyTypeahead.offer(int)",
        "public int FuzzyTypeahead.distance(int)",
        "public int FuzzyTypeahead.weightAt(int)",
        "public int FuzzyTypeahead.nearest()",
        "public int FuzzyTypeahead.exact()",
        "public int FuzzyTypeahead.continues()",
    };

    public static void main(String[] args) {
        Set<String> due = new TreeSet<>(Set.of(FACE));
        Set<String> shown = shownMembers();
        int modifiers = FuzzyTypeahead.class.getModifiers();
        boolean right = Modifier.isPublic(modifiers) && Modifier.isFinal(modifiers);
        if (!right || !shown.equals(due)) {
            System.out.println("the face is " + shown + ", due is " + due);
            System.exit(1);
        }
        System.out.println("the face is as due");
    }

    private static Set<String> shownMembers() {
        Set<String> shown = new TreeSet<>();
        for (Field field : FuzzyTypeahead.class.getDeclaredFields()) {
            if (!Modifier.isPrivate(field.getModifiers())) {
                shown.add(field.toString());
            }
        }
        for (Constructor<?> constructor : FuzzyTypeahead.class.getDeclaredConstructors()) {
            if (!Modifier.isPrivate(constructor.getModifiers())) {
                shown.add(constructor.toString());
            }
        }
        for (Method method : FuzzyTypeahead.class.getDeclaredMethods()) {
            if (!Modifier.isPrivate(method.getModifiers())) {
                shown.add(method.toString());
            }
        }
        return shown;
    }
}
