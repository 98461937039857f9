import java.lang.reflect.Constructor;
import java.lang.reflect.Field;
import java.lang.reflect.Method;
import java.lang.reflect.Modifier;
import java.util.Arrays;
import java.util.TreeSet;

/** The public face: the document's constructor and methods with their exceptions, and no other. */
public final class FaceTest {
    private static final String[] FACE = {
        "int unit(int) B U",
        "int incident(int) B U",
        "void rank(int, int) A B S",
        "int need(int, int, int) A B S U",
        "void seconds(int, int, int) A B",
        "void limit(int, int) A B",
        "void reserve(int, int) B",
        "void broken(int, boolean) A S",
        "int send(int) B",
        "void stay(int, boolean) A S",
        "void recall(int) A S",
        "void close(int) A S",
        "int needAt(int, int) A",
        "int fills(int) A",
        "int sum(int) A",
        "int alternative(int) A S",
        "int never(int) B",
    };

    public static void main(String[] args) {
        Check check = new Check("FaceTest");
        TreeSet<String> due = new TreeSet<>(Arrays.asList(FACE));
        TreeSet<String> is = new TreeSet<>();
        for (Method method : SendBest.class.getDeclaredMethods()) {
            if (!Modifier.isPrivate(method.getModifiers())) {
                is.add(text(method));
                check.due(method.getName() + " is public", method.getModifiers(), Modifier.PUBLIC);
            }
        }
        if (!is.equals(due)) {
            check.fault("the methods are " + is + ", due are " + due);
        }
        for (Field field : SendBest.class.getDeclaredFields()) {
            check.due(field.getName() + " is private", Modifier.isPrivate(field.getModifiers()) ? 1 : 0, 1);
        }
        Constructor<?>[] made = SendBest.class.getDeclaredConstructors();
        check.due("constructors", made.length, 1);
        check.due("the constructor is public", made[0].getModifiers(), Modifier.PUBLIC);
        check.due("its parameters", made[0].getParameterCount(), 0);
        check.due("the class", SendBest.class.getModifiers(), Modifier.PUBLIC | Modifier.FINAL);
        check.end();
    }

    private static String text(Method method) {
        StringBuilder text = new StringBuilder();
        text.append(method.getReturnType()).append(' ').append(method.getName()).append('(');
        String between = "";
        for (Class<?> type : method.getParameterTypes()) {
            text.append(between).append(type);
            between = ", ";
        }
        text.append(')');
        for (Class<?> thrown : method.getExceptionTypes()) {
            text.append(' ').append(letter(thrown));
        }
        return text.toString();
    }

    private static String letter(Class<?> thrown) {
        return thrown == IllegalArgumentException.class ? "A"
            : thrown == IndexOutOfBoundsException.class ? "B"
            : thrown == IllegalStateException.class ? "S"
            : thrown == UnsupportedOperationException.class ? "U" : thrown.getName();
    }
}
