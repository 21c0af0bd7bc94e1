import java.lang.reflect.Constructor;
import java.lang.reflect.Field;
import java.lang.reflect.Method;
import java.lang.reflect.Modifier;
import java.util.Arrays;
import java.util.Set;
import java.util.TreeSet;

/** The public face: the document's constants, constructor and methods, and no other member in sight. */
public final class FaceTest {
    private static final Set<String> METHODS = new TreeSet<>(Arrays.asList(
        "int goppaPoly[]", "int support[int]", "int fieldMul[int, int]", "int ringInverse[int]",
        "int ringSqrt[int]", "int syndrome[int]", "int dimension[]", "int checkRow[int]",
        "int infoPosition[int]", "boolean setMessage[int]", "boolean setErrors[int]",
        "int encrypt[]", "boolean setReceived[int]", "int decrypt[]", "int decodedMessage[]",
        "int foundErrors[]"));
    private static final Set<String> CONSTANTS = new TreeSet<>(Arrays.asList(
        "N=12", "T=2", "M=4", "FIELD_POLY=19", "MAX_WORD=4095", "FAIL=-1"));

    public static void main(String[] args) throws IllegalAccessException {
        Due due = new Due("FaceTest");
        due.holds("public final class", GoppaCrypt.class.getModifiers() == (Modifier.PUBLIC | Modifier.FINAL));
        methods(due);
        constants(due);
        constructor(due);
        due.end();
    }

    private static void methods(Due due) {
        Set<String> seen = new TreeSet<>();
        for (Method method : GoppaCrypt.class.getDeclaredMethods()) {
            if (!Modifier.isPrivate(method.getModifiers())) {
                due.holds(method + " is public alone", method.getModifiers() == Modifier.PUBLIC);
                seen.add(method.getReturnType() + " " + method.getName()
                    + Arrays.toString(method.getParameterTypes()));
            }
        }
        due.holds("the methods are the document's, not " + seen, seen.equals(METHODS));
    }

    private static void constants(Due due) throws IllegalAccessException {
        Set<String> seen = new TreeSet<>();
        for (Field field : GoppaCrypt.class.getDeclaredFields()) {
            if (!Modifier.isPrivate(field.getModifiers())) {
                due.holds(field + " is a public int constant", field.getType() == int.class
                    && field.getModifiers() == (Modifier.PUBLIC | Modifier.STATIC | Modifier.FINAL));
                seen.add(field.getName() + "=" + field.getInt(null));
            }
        }
        due.holds("the constants are the document's, not " + seen, seen.equals(CONSTANTS));
    }

    private static void constructor(Due due) {
        Constructor<?>[] all = GoppaCrypt.class.getDeclaredConstructors();
        due.is("number of constructors", all.length, 1);
        due.holds("public constructor of two ints", all[0].getModifiers() == Modifier.PUBLIC
            && Arrays.equals(all[0].getParameterTypes(), new Class<?>[] {int.class, int.class}));
    }
}
