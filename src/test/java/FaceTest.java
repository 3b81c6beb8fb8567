import java.lang.reflect.Constructor;
import java.lang.reflect.Field;
import java.lang.reflect.Method;
import java.lang.reflect.Modifier;
import java.util.Arrays;
import java.util.TreeSet;

/** The face is the document's, and nothing more is seen from outside. */
public final class FaceTest {
    private static final String[] FACE = {
        "int rule() UnsupportedOperationException",
        "int alternative(int) IndexOutOfBoundsException UnsupportedOperationException",
        "int symbol(int int) IndexOutOfBoundsException IllegalArgumentException"
                + " IllegalStateException UnsupportedOperationException",
        "int clear()",
        "int fault()",
        "int faulty()",
        "int token(int) IllegalArgumentException UnsupportedOperationException",
        "void keep(int) IllegalArgumentException",
        "int parse() IllegalStateException UnsupportedOperationException",
        "int nodes()",
        "int node(int int) IndexOutOfBoundsException IllegalArgumentException",
        "int reach() IllegalStateException",
        "long expected(int) IllegalStateException IllegalArgumentException",
        "boolean isNothing(int) IllegalStateException IndexOutOfBoundsException",
        "long first(int) IllegalStateException IndexOutOfBoundsException",
        "long following(int) IllegalStateException IndexOutOfBoundsException",
        "int lets(int int) IllegalStateException IndexOutOfBoundsException"
                + " IllegalArgumentException",
        "int count(int) IllegalArgumentException",
    };

    public static void main(String[] args) {
        Class<?> face = FirstTrees.class;
        Checks.due("the class's modifiers", face.getModifiers(), Modifier.PUBLIC | Modifier.FINAL);
        Checks.due("NONE", FirstTrees.NONE, -1);
        TreeSet<String> seen = new TreeSet<>();
        for (Method method : face.getDeclaredMethods()) {
            if (!Modifier.isPrivate(method.getModifiers()) && !method.isSynthetic()) {
                Checks.due(method.getName(), method.getModifiers(), Modifier.PUBLIC);
                seen.add(written(method));
            }
        }
        Checks.due("the methods", seen.toString(), new TreeSet<>(Arrays.asList(FACE)).toString());
        for (Field field : face.getDeclaredFields()) {
            boolean isSeen = !Modifier.isPrivate(field.getModifiers());
            Checks.due(field.getName() + " is seen", isSeen, field.getName().equals("NONE"));
        }
        Constructor<?>[] constructors = face.getDeclaredConstructors();
        Checks.due("the constructors", constructors.length, 1);
        Checks.due("the constructor", constructors[0].toString(), "public FirstTrees()");
        Checks.end();
    }

    private static String written(Method method) {
        StringBuilder text = new StringBuilder();
        text.append(method.getReturnType()).append(' ').append(method.getName()).append('(');
        String between = "";
        for (Class<?> type : method.getParameterTypes()) {
            text.append(between).append(type);
            between = " ";
        }
        text.append(')');
        for (Class<?> type : method.getExceptionTypes()) {
            text.append(' ').append(type.getSimpleName());
        }
        return text.toString();
    }
}
