import java.lang.reflect.Constructor;
import java.lang.reflect.Field;
import java.lang.reflect.Method;
import java.lang.reflect.Modifier;
import java.util.HashSet;
import java.util.Set;

/** The rules of LANGUAGE.md that the compiled class shows; FaceTest has the rest of rule 1. */
public final class RulesTest {
    private static final int MOST_FIELDS = 40;
    private static final int MOST_PARAMETERS = 7;

    public static void main(String[] args) {
        noPrivateMethodBearsAPublicName();
        for (Field field : HalfWords.class.getDeclaredFields()) {
            checkField(field);
        }
        for (Method method : HalfWords.class.getDeclaredMethods()) {
            checkMethod(method);
        }
        fewFields();
        Checks.due("rule 2: the class extends Object alone", HalfWords.class.getSuperclass() == Object.class, true);
        Checks.due("rule 2: the number of interfaces", HalfWords.class.getInterfaces().length, 0);
        for (Constructor<?> constructor : HalfWords.class.getDeclaredConstructors()) {
            Checks.due("rule 6: the constructor's exceptions", constructor.getExceptionTypes().length, 0);
        }
        Checks.end();
    }

    private static void noPrivateMethodBearsAPublicName() {
        Set<String> names = new HashSet<>();
        for (Method method : HalfWords.class.getMethods()) {
            names.add(method.getName());
        }
        for (Method method : HalfWords.class.getDeclaredMethods()) {
            if (Modifier.isPrivate(method.getModifiers())) {
                String name = method.getName();
                Checks.due("rule 1: a public method named " + name, names.contains(name), false);
            }
        }
    }

    private static void checkField(Field field) {
        Class<?> type = field.getType();
        if (Modifier.isStatic(field.getModifiers())) {
            Checks.due("rule 5: " + field + " is int or long", type == int.class || type == long.class, true);
            Checks.due("rule 5: " + field + " is final", Modifier.isFinal(field.getModifiers()), true);
        } else {
            Checks.due("rule 2: the type of " + field, isAllowed(type), true);
        }
        // A class with assert gets a field that the source does not name.
        Checks.due("rule 6: " + field + " is the compiler's own", field.isSynthetic(), false);
    }

    private static void checkMethod(Method method) {
        Class<?> answer = method.getReturnType();
        // An array is handed to a private method at most, and never answered.
        Checks.due("rule 2: the answer of " + method, answer == void.class || isNumber(answer), true);
        for (Class<?> type : method.getParameterTypes()) {
            boolean isPrivate = Modifier.isPrivate(method.getModifiers());
            Checks.due("rule 2: the parameters of " + method, isPrivate ? isAllowed(type) : isNumber(type), true);
        }
        Checks.due("rule 10: few parameters of " + method, method.getParameterCount() <= MOST_PARAMETERS, true);
        Checks.due("rule 6: the exceptions of " + method, method.getExceptionTypes().length, 0);
        // So does one with a lambda get a method.
        Checks.due("rule 6: " + method + " is the compiler's own", method.isSynthetic(), false);
        Checks.due("rule 6: synchronized " + method, Modifier.isSynchronized(method.getModifiers()), false);
    }

    private static void fewFields() {
        int fields = 0;
        for (Field field : HalfWords.class.getDeclaredFields()) {
            if (!Modifier.isStatic(field.getModifiers())) {
                fields++;
            }
        }
        Checks.due("rule 10: few fields beside the constants", fields <= MOST_FIELDS, true);
    }

    private static boolean isAllowed(Class<?> type) {
        return isNumber(type) || type.isArray() && isNumber(type.getComponentType());
    }

    private static boolean isNumber(Class<?> type) {
        return type.isPrimitive() && type != float.class && type != double.class && type != void.class;
    }
}
