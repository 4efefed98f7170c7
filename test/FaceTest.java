import java.lang.reflect.Constructor;
import java.lang.reflect.Field;
import java.lang.reflect.Method;
import java.lang.reflect.Modifier;
import java.util.Arrays;
import java.util.Set;
import java.util.TreeSet;

/** The public face is the one of the document, with nothing besides. */
final class FaceTest {
    private static final String[] FACE = {
        "int kind(int, int, boolean) throws IllegalArgumentException, IllegalStateException",
        "int bound(int, int, int) throws IndexOutOfBoundsException, IllegalArgumentException",
        "int extend(int, int) throws IndexOutOfBoundsException, IllegalArgumentException, IllegalStateException",
        "int ofKind(int, int) throws IndexOutOfBoundsException, IllegalArgumentException",
        "int of(int, int, int) throws IndexOutOfBoundsException, IllegalArgumentException, IllegalStateException",
        "int parameter(int, int) throws IndexOutOfBoundsException, IllegalStateException",
        "int array(int) throws IndexOutOfBoundsException, IllegalArgumentException, IllegalStateException",
        "int ofType(int, int) throws IndexOutOfBoundsException, IllegalArgumentException",
        "boolean isBelow(int, int) throws IndexOutOfBoundsException",
        "int join(int, int) throws IndexOutOfBoundsException",
        "int as(int, int) throws IndexOutOfBoundsException",
        "boolean areAll(int, int) throws IndexOutOfBoundsException, IllegalArgumentException",
        "int method(int, int, int, int, int, int, boolean) throws IndexOutOfBoundsException,"
            + " IllegalArgumentException, IllegalStateException",
        "int variable(int, int) throws IndexOutOfBoundsException, IllegalArgumentException",
        "int ofMethod(int, int) throws IndexOutOfBoundsException, IllegalArgumentException",
        "int call(int, int, int, int, int, int) throws IndexOutOfBoundsException, IllegalArgumentException",
        "int members(int, int) throws IndexOutOfBoundsException, IllegalArgumentException",
        "int fault(int, int) throws IndexOutOfBoundsException, IllegalArgumentException",
        "int many(int) throws IllegalArgumentException",
        "double meanMembers()",
        "int pairsWith(int, int, int) throws IndexOutOfBoundsException, IllegalArgumentException",
        "int faultsWithout(int) throws IndexOutOfBoundsException",
        "long digest()",
    };

    public static void main(String[] arguments) {
        Check check = new Check("FaceTest");
        Set<String> due = new TreeSet<>(Arrays.asList(FACE));
        Set<String> found = new TreeSet<>();
        Set<String> hidden = new TreeSet<>();
        for (Method method : BoundWright.class.getDeclaredMethods()) {
            if (Modifier.isPublic(method.getModifiers())) {
                found.add(told(method));
            } else if (!method.isSynthetic()) {
                hidden.add(method.getName());
                check.due(method.getName() + " is private", Modifier.isPrivate(method.getModifiers()), true);
            }
        }
        check.due("the public methods", found.toString(), due.toString());
        for (Method method : BoundWright.class.getDeclaredMethods()) {
            if (Modifier.isPublic(method.getModifiers())) {
                check.due("a private " + method.getName(), hidden.contains(method.getName()), false);
            }
        }
        for (Field field : BoundWright.class.getDeclaredFields()) {
            check.due(field.getName() + " is private", Modifier.isPrivate(field.getModifiers()), true);
            check.due(field.getName() + " is final", Modifier.isFinal(field.getModifiers()), true);
        }
        Constructor<?>[] constructors = BoundWright.class.getDeclaredConstructors();
        check.due("constructors", constructors.length, 1);
        check.due("its parameters", constructors[0].getParameterCount(), 0);
        check.due("it is public", Modifier.isPublic(constructors[0].getModifiers()), true);
        check.due("the class", Modifier.toString(BoundWright.class.getModifiers()), "public final");
        for (Class<?> inner : BoundWright.class.getDeclaredClasses()) {
            check.due(inner.getName(), Modifier.toString(inner.getModifiers()), "private static final");
        }
        check.end();
    }

    private static String told(Method method) {
        StringBuilder text = new StringBuilder();
        text.append(method.getReturnType().getName()).append(' ').append(method.getName()).append('(');
        text.append(listed(method.getParameterTypes())).append(')');
        if (method.getExceptionTypes().length > 0) {
            text.append(" throws ").append(listed(method.getExceptionTypes()));
        }
        return text.toString();
    }

    private static String listed(Class<?>[] types) {
        StringBuilder text = new StringBuilder();
        for (Class<?> type : types) {
            text.append(text.length() == 0 ? "" : ", ").append(type.getSimpleName());
        }
        return text.toString();
    }
}
