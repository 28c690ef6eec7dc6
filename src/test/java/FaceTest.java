import java.lang.reflect.Constructor;
import java.lang.reflect.Field;
import java.lang.reflect.Method;
import java.lang.reflect.Modifier;
import java.util.Arrays;
import java.util.TreeSet;

/** The class shows the document's face, and nothing else. */
public final class FaceTest {
    private static final String[] FACE = {
        "int invite() IllegalStateException",
        "int rule(int int) IndexOutOfBoundsException IllegalArgumentException IllegalStateException",
        "boolean turn(int) IndexOutOfBoundsException",
        "int told(int int) IndexOutOfBoundsException",
        "boolean follows(int int) IndexOutOfBoundsException",
        "int reach(int) IndexOutOfBoundsException",
        "int steps(int int) IndexOutOfBoundsException",
        "int guest(int int) IndexOutOfBoundsException",
        "boolean fits()",
        "int seat()",
        "int seatings()",
        "int fewest()",
        "int most()",
        "int broken(int) IllegalArgumentException",
        "int blame()",
        "int tightens(int int) IndexOutOfBoundsException",
        "int count(int) IndexOutOfBoundsException",
        "double mean()",
        "long digest()",
    };

    private static String written(Method method) {
        StringBuilder text = new StringBuilder();
        text.append(method.getReturnType().getSimpleName()).append(' ').append(method.getName()).append('(');
        text.append(joined(method.getParameterTypes())).append(')');
        String thrown = joined(method.getExceptionTypes());
        return thrown.isEmpty() ? text.toString() : text + " " + thrown;
    }

    private static String joined(Class<?>[] types) {
        StringBuilder text = new StringBuilder();
        for (Class<?> type : types) {
            text.append(text.length() == 0 ? "" : " ").append(type.getSimpleName());
        }
        return text.toString();
    }

    private static TreeSet<String> publicMethods() {
        TreeSet<String> found = new TreeSet<>();
        for (Method method : GuestChairs.class.getDeclaredMethods()) {
            if (!Modifier.isPrivate(method.getModifiers())) {
                found.add(Modifier.isPublic(method.getModifiers()) ? written(method) : "hidden " + written(method));
            }
        }
        return found;
    }

    /** Private methods that bear the name of a public one. */
    private static TreeSet<String> namesTwice() {
        TreeSet<String> shown = new TreeSet<>();
        TreeSet<String> hidden = new TreeSet<>();
        for (Method method : GuestChairs.class.getDeclaredMethods()) {
            (Modifier.isPrivate(method.getModifiers()) ? hidden : shown).add(method.getName());
        }
        hidden.retainAll(shown);
        return hidden;
    }

    private static int openFields() {
        int open = 0;
        for (Field field : GuestChairs.class.getDeclaredFields()) {
            int modifiers = field.getModifiers();
            boolean changes = Modifier.isStatic(modifiers) && !Modifier.isFinal(modifiers);
            open += Modifier.isPrivate(modifiers) && !changes ? 0 : 1;
        }
        return open;
    }

    private static String constructors() {
        StringBuilder text = new StringBuilder();
        for (Constructor<?> made : GuestChairs.class.getDeclaredConstructors()) {
            text.append(Modifier.toString(made.getModifiers())).append('(');
            text.append(joined(made.getParameterTypes())).append(')').append(joined(made.getExceptionTypes()));
        }
        return text.toString();
    }

    public static void main(String[] args) {
        Check check = new Check();
        check.due("the class", "public final", () -> Modifier.toString(GuestChairs.class.getModifiers()));
        check.due("the public methods", new TreeSet<>(Arrays.asList(FACE)), FaceTest::publicMethods);
        check.due("private methods with a public name", "[]", FaceTest::namesTwice);
        check.due("fields that are open or static state", 0, FaceTest::openFields);
        check.due("the constructors", "public()", FaceTest::constructors);
        check.end();
    }
}
