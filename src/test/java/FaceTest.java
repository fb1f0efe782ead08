import java.lang.reflect.Constructor;
import java.lang.reflect.Field;
import java.lang.reflect.Method;
import java.lang.reflect.Modifier;
import java.util.Set;
import java.util.TreeSet;

/** The public face is the document's, with nothing more in it, and the constants have their values. */
public final class FaceTest {
    private static final String[] METHODS = {
        "addNode(int)int", "append(int)int", "build()int", "checksum()long", "clear()int",
        "clearText()int", "compare(int,int,int)int", "connect(int,int,int)int", "count(int)int",
        "faultDepth()int", "faultPosition()int", "input(int,int)int", "isCached(int,int)int",
        "node(int,int)int", "nodes()int", "parameter(int,int)int", "restore(int)int", "save(int)int",
        "scope(int,int,int,int)int", "set(int,int,int)int", "setRange(int,int,int)int",
        "setRoom(int)int", "sum(int,int,int,int)int", "value(int,int,int,int,int)int",
    };

    public static void main(String[] arguments) {
        Checks checks = new Checks();
        checkConstants(checks);
        checkMethods(checks);
        checkState(checks);
        checks.finish("FaceTest");
    }

    private static void checkConstants(Checks checks) {
        checks.due("BAD_INDEX", GradeGraph.BAD_INDEX, -1001);
        checks.due("BAD_VALUE", GradeGraph.BAD_VALUE, -1002);
        checks.due("NOT_POSSIBLE", GradeGraph.NOT_POSSIBLE, -1003);
        checks.due("FULL", GradeGraph.FULL, -1004);
        checks.due("NONE", GradeGraph.NONE, -1005);
        checks.due("SOURCE", GradeGraph.SOURCE, 0);
        checks.due("GAIN", GradeGraph.GAIN, 1);
        checks.due("SHIFT", GradeGraph.SHIFT, 2);
        checks.due("INVERT", GradeGraph.INVERT, 3);
        checks.due("BLUR", GradeGraph.BLUR, 4);
        checks.due("KEY", GradeGraph.KEY, 5);
        checks.due("BLEND", GradeGraph.BLEND, 6);
    }

    private static void checkMethods(Checks checks) {
        Set<String> due = new TreeSet<>(Set.of(METHODS));
        Set<String> found = new TreeSet<>();
        for (Method method : GradeGraph.class.getDeclaredMethods()) {
            if (!Modifier.isPrivate(method.getModifiers())) {
                found.add(signature(method));
                checks.holds(method + " is public", Modifier.isPublic(method.getModifiers()));
            }
        }
        checks.holds("the methods " + found + " are the document's", found.equals(due));
        Constructor<?>[] constructors = GradeGraph.class.getDeclaredConstructors();
        checks.due("the number of constructors", constructors.length, 1);
        checks.due("the constructor's parameters", constructors[0].getParameterCount(), 0);
        checks.holds("the class is public", Modifier.isPublic(GradeGraph.class.getModifiers()));
        checks.holds("the class is final", Modifier.isFinal(GradeGraph.class.getModifiers()));
    }

    private static String signature(Method method) {
        StringBuilder signature = new StringBuilder(method.getName()).append('(');
        for (Class<?> type : method.getParameterTypes()) {
            if (signature.charAt(signature.length() - 1) != '(') {
                signature.append(',');
            }
            signature.append(type.getName());
        }
        return signature.append(')').append(method.getReturnType().getName()).toString();
    }

    private static void checkState(Checks checks) {
        int open = 0;
        for (Field field : GradeGraph.class.getDeclaredFields()) {
            if (!Modifier.isPrivate(field.getModifiers())) {
                open++;
            }
            boolean isFixed = Modifier.isFinal(field.getModifiers());
            checks.holds(field + " is no state of all objects", isFixed || !Modifier.isStatic(field.getModifiers()));
        }
        checks.due("the number of public constants", open, 12);
    }
}
