import java.lang.reflect.Constructor;
import java.lang.reflect.Field;
import java.lang.reflect.Method;
import java.lang.reflect.Modifier;
import java.util.Map;
import java.util.TreeSet;

/** The public face: the document's constants, constructor and methods, and nothing else that can be seen. */
public final class FaceTest {
    private static final String[] METHODS = {
        "int type(long,int)", "int line(int)", "int drop(int)", "int kind(int)", "int degree(int)",
        "int told(int,int,int)", "long at(int,int,int,int,int)", "int far(int,int)", "long equation(int,int)",
        "int bends(int)", "int times(int)", "int lies(int,int,int,int)", "long law(int,int)", "long knot(int,int)",
        "int crosses(int)", "int meets(int,int,int,int)", "long touch(int,int,int,int)", "int same(int,int)",
        "int anew(int,int,int,int,int)", "int move(int,int,int,int,int,int,int)", "int copy(int,int)",
        "int sheet(int,int,int)", "int away(int)", "int item(int,int,int,int)", "int terms(int,int,int,int)"};
    private static final Map<String, Integer> CONSTANTS = Map.of(
        "BAD", -1, "NOT", -2, "FULL", -3, "NONE", -4, "NULL", -11, "CAST", -12, "INDEX", -13, "SIZE", -14);

    public static void main(String[] args) throws IllegalAccessException {
        Due due = new Due("FaceTest");
        due.is("modifiers", BentShares.class.getModifiers(), Modifier.PUBLIC | Modifier.FINAL);
        methods(due);
        fields(due);
        Constructor<?>[] constructors = BentShares.class.getDeclaredConstructors();
        due.is("constructors", constructors.length, 1);
        due.is("the constructor's parameters", constructors[0].getParameterCount(), 0);
        due.isTrue("the constructor is public", Modifier.isPublic(constructors[0].getModifiers()));
        for (Class<?> inside : BentShares.class.getDeclaredClasses()) {
            due.isTrue(inside + " is static", Modifier.isStatic(inside.getModifiers()));
            due.isTrue(inside + " is not public",
                !Modifier.isPublic(inside.getModifiers()) && !Modifier.isProtected(inside.getModifiers()));
        }
        due.end();
    }

    private static void methods(Due due) {
        TreeSet<String> wanted = new TreeSet<>(java.util.List.of(METHODS));
        TreeSet<String> names = new TreeSet<>();
        for (String method : METHODS) {
            names.add(method.substring(method.indexOf(' ') + 1, method.indexOf('(')));
        }
        for (Method method : BentShares.class.getDeclaredMethods()) {
            if (Modifier.isPublic(method.getModifiers())) {
                due.isTrue("unlooked-for " + method, wanted.remove(signature(method)));
            } else {
                due.isTrue(method + " is private", Modifier.isPrivate(method.getModifiers()));
                due.isTrue(method + " bears a name of its own", !names.contains(method.getName()));
            }
        }
        due.isTrue("missing " + wanted, wanted.isEmpty());
    }

    private static void fields(Due due) throws IllegalAccessException {
        int constants = 0;
        for (Field field : BentShares.class.getDeclaredFields()) {
            int is = field.getModifiers();
            due.isTrue(field + " is final or belongs to an object", Modifier.isFinal(is) || !Modifier.isStatic(is));
            if (Modifier.isPublic(is)) {
                constants++;
                due.isTrue(field + " is a constant", Modifier.isStatic(is) && CONSTANTS.containsKey(field.getName()));
                due.is(field.getName(), field.getInt(null), CONSTANTS.getOrDefault(field.getName(), 0));
            } else {
                due.isTrue(field + " is private", Modifier.isPrivate(is));
            }
        }
        due.is("constants", constants, CONSTANTS.size());
    }

    private static String signature(Method method) {
        StringBuilder text = new StringBuilder();
        text.append(method.getReturnType()).append(' ').append(method.getName()).append('(');
        String comma = "";
        for (Class<?> parameter : method.getParameterTypes()) {
            text.append(comma).append(parameter);
            comma = ",";
        }
        return text.append(')').toString();
    }
}
