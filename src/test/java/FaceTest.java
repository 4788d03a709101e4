import java.lang.reflect.Constructor;
import java.lang.reflect.Field;
import java.lang.reflect.Method;
import java.lang.reflect.Modifier;
import java.util.Map;
import java.util.TreeMap;
import java.util.TreeSet;

/** The face: the constants, the constructor and the methods of the document, and nothing else that can be seen. */
public final class FaceTest {
    private static final String[] METHODS = {
        "int type(int char) IllegalArgumentException IllegalStateException",
        "int fault(int int) IllegalArgumentException",
        "int cell(int int) IllegalArgumentException IllegalStateException",
        "int edit(int int int) IndexOutOfBoundsException IllegalArgumentException IllegalStateException",
        "int mode(int) IllegalArgumentException",
        "int widget(char int int) IllegalArgumentException IllegalStateException",
        "boolean bind(int int) IndexOutOfBoundsException IllegalArgumentException",
        "int turn(int int) IndexOutOfBoundsException IllegalArgumentException",
        "int tick()",
        "int shows(int) IndexOutOfBoundsException",
        "int run(int) IndexOutOfBoundsException IllegalStateException",
        "int checkpoint()",
        "int kill()",
        "int restore() IllegalStateException",
        "int state(int) IndexOutOfBoundsException",
        "int needs(int) IndexOutOfBoundsException",
        "int ring(int) IndexOutOfBoundsException",
        "int result(int int) IndexOutOfBoundsException IllegalStateException",
        "int resultAnew(int int) IndexOutOfBoundsException IllegalStateException",
        "int value(char int) IllegalArgumentException IllegalStateException",
        "int error(int) IndexOutOfBoundsException",
        "int order(int) IndexOutOfBoundsException",
        "int runs()",
        "int found()",
    };

    public static void main(String[] args) throws Exception {
        constants();
        methods();
        constructors();
        Checks.end("FaceTest");
    }

    private static void constants() throws Exception {
        Map<String, Integer> want = new TreeMap<>();
        want.put("NONE", -1);
        put(want, "EXPRESSIONS", "QUERIES", "RULES");
        put(want, "FRESH", "STALE", "FAILED", "BLOCKED", "RING", "TWICE");
        put(want, "BY_HAND", "ASKED", "AT_ONCE");
        put(want, "", "UNTOLD", "KIND", "ITEM");
        Map<String, Integer> got = new TreeMap<>();
        for (Field field : NotebookWeir.class.getDeclaredFields()) {
            if (!Modifier.isPrivate(field.getModifiers())) {
                Checks.due(field + " is a constant", field.getModifiers(),
                        Modifier.PUBLIC | Modifier.STATIC | Modifier.FINAL);
                got.put(field.getName(), field.getInt(null));
            }
        }
        Checks.due("constants " + got + " are " + want, got.equals(want) ? 1 : 0, 1);
    }

    private static void put(Map<String, Integer> want, String... names) {
        for (int i = 0; i < names.length; i++) {
            if (!names[i].isEmpty()) {
                want.put(names[i], i);
            }
        }
    }

    private static void methods() {
        TreeSet<String> want = new TreeSet<>(java.util.List.of(METHODS));
        TreeSet<String> got = new TreeSet<>();
        TreeSet<String> publicNames = new TreeSet<>();
        TreeSet<String> privateNames = new TreeSet<>();
        for (Method method : NotebookWeir.class.getDeclaredMethods()) {
            if (Modifier.isPrivate(method.getModifiers())) {
                privateNames.add(method.getName());
            } else if (!method.isSynthetic()) {
                Checks.due(method + " is public alone", method.getModifiers(), Modifier.PUBLIC);
                got.add(tell(method));
                publicNames.add(method.getName());
            }
        }
        Checks.due("methods " + got + " are " + want, got.equals(want) ? 1 : 0, 1);
        privateNames.retainAll(publicNames);
        Checks.due("private methods named as public ones: " + privateNames, privateNames.size(), 0);
    }

    private static String tell(Method method) {
        StringBuilder told = new StringBuilder();
        told.append(method.getReturnType()).append(' ').append(method.getName()).append('(');
        for (int i = 0; i < method.getParameterTypes().length; i++) {
            told.append(i == 0 ? "" : " ").append(method.getParameterTypes()[i]);
        }
        told.append(')');
        for (Class<?> thrown : method.getExceptionTypes()) {
            told.append(' ').append(thrown.getSimpleName());
        }
        return told.toString();
    }

    private static void constructors() {
        Constructor<?>[] made = NotebookWeir.class.getDeclaredConstructors();
        Checks.due("how many constructors", made.length, 1);
        Checks.due("the constructor is public", made[0].getModifiers(), Modifier.PUBLIC);
        Checks.due("its parameters", made[0].getParameterCount(), 0);
        Checks.due("the class is public and final", NotebookWeir.class.getModifiers(), Modifier.PUBLIC | Modifier.FINAL);
    }
}
