import java.lang.reflect.Constructor;
import java.lang.reflect.Field;
import java.lang.reflect.Method;
import java.lang.reflect.Modifier;
import java.util.Set;
import java.util.TreeSet;

/** The public face, and rule 1 of LANGUAGE.md: these members, and no other one that can be seen from outside. */
public final class FaceTest {
    private static final String[] CONSTANTS = {
        "ADD", "SUB", "MUL", "DIV", "REM", "AND", "OR", "XOR", "SHL", "SHR", "USHR", "COMPARE", "UCOMPARE", "MULHIGH",
        "UDIV", "UREM"};
    private static final String[] METHODS = {
        "public boolean HalfWords.set(int,long)",
        "public long HalfWords.get(int)",
        "public int HalfWords.apply(int,int,int,int)",
        "public int HalfWords.typeDigit(int,int)",
        "public int HalfWords.digits(int)",
        "public int HalfWords.digit(int,int)",
        "public int HalfWords.root(int,int)",
        "public int HalfWords.leadingZeros(int)",
        "public int HalfWords.power(int,int,int)",
        "public int HalfWords.divisor(int,int,int)"};

    public static void main(String[] args) throws ReflectiveOperationException {
        Checks.due("the class's modifiers", HalfWords.class.getModifiers(), Modifier.PUBLIC | Modifier.FINAL);
        constants();
        Set<String> due = new TreeSet<>(Set.of(METHODS));
        Set<String> found = new TreeSet<>();
        for (Method method : HalfWords.class.getDeclaredMethods()) {
            if (!Modifier.isPrivate(method.getModifiers())) {
                found.add(method.toString());
            }
        }
        Checks.due("the methods " + found, found.equals(due), true);
        Constructor<?>[] constructors = HalfWords.class.getDeclaredConstructors();
        Checks.due("the number of constructors", constructors.length, 1);
        Checks.due("the constructor", constructors[0].toString().equals("public HalfWords()"), true);
        Checks.due("the number of nested classes", HalfWords.class.getDeclaredClasses().length, 0);
        Checks.end();
    }

    private static void constants() throws ReflectiveOperationException {
        for (int k = 0; k < CONSTANTS.length; k++) {
            constant(CONSTANTS[k], k);
        }
        constant("BAD", -1);
        constant("ZERO", -2);
        int visible = 0;
        for (Field field : HalfWords.class.getDeclaredFields()) {
            if (!Modifier.isPrivate(field.getModifiers())) {
                visible++;
            }
        }
        Checks.due("the number of constants", visible, CONSTANTS.length + 2);
    }

    private static void constant(String name, int want) throws ReflectiveOperationException {
        Field field = HalfWords.class.getField(name);
        Checks.due(name, field.getInt(null), want);
        Checks.due(name + "'s type", field.getType() == int.class, true);
        Checks.due(name + "'s modifiers", field.getModifiers(), Modifier.PUBLIC | Modifier.STATIC | Modifier.FINAL);
    }
}
