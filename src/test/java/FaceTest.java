import java.lang.reflect.Constructor;
import java.lang.reflect.Field;
import java.lang.reflect.Method;
import java.lang.reflect.Modifier;
import java.util.Arrays;
import java.util.Set;
import java.util.TreeSet;

/** The public face is the document's, and nothing else of the class can be seen from outside. */
public final class FaceTest {
    private static final Set<String> FACE = new TreeSet<>(Arrays.asList(
        "int put(int, int)",
        "int remove(int)",
        "int get(int)",
        "int has(int)",
        "int next(int)",
        "int previous(int)",
        "int count(int, int)",
        "int swap(int, int, int)",
        "int stage(boolean, int, int)",
        "int commit()",
        "void tidy()"));

    private static int wrong = 0;

    private static void check(boolean holds, String fault) {
        if (!holds) {
            wrong++;
            System.out.println(fault);
        }
    }

    private static String told(Method method) {
        StringBuilder types = new StringBuilder();
        for (Class<?> type : method.getParameterTypes()) {
            types.append(types.length() == 0 ? "" : ", ").append(type.getName());
        }
        return method.getReturnType().getName() + " " + method.getName() + "(" + types + ")";
    }

    public static void main(String[] args) {
        Class<?> type = DeltaTree.class;
        int modifiers = type.getModifiers();
        check(Modifier.isPublic(modifiers) && Modifier.isFinal(modifiers), "the class is not public and final");
        check(type.getPackageName().isEmpty(), "the class has a package");
        check(type.getDeclaredClasses().length == 0, "the class has a nested class");

        Constructor<?>[] made = type.getDeclaredConstructors();
        boolean one = made.length == 1 && made[0].getParameterCount() == 0;
        check(one && Modifier.isPublic(made[0].getModifiers()), "the constructor is not the document's");

        Set<String> seen = new TreeSet<>();
        for (Method method : type.getDeclaredMethods()) {
            if (!Modifier.isPrivate(method.getModifiers())) {
                seen.add(told(method));
                check(!Modifier.isStatic(method.getModifiers()), told(method) + " is static");
                check(Modifier.isPublic(method.getModifiers()), told(method) + " is not public");
            }
        }
        check(seen.equals(FACE), "the methods are " + seen + ", due are " + FACE);
        for (Field field : type.getDeclaredFields()) {
            check(Modifier.isPrivate(field.getModifiers()), field.getName() + " is not private");
        }
        System.out.println(wrong == 0 ? "the face is as due" : wrong + " faults of the face");
        if (wrong != 0) {
            System.exit(1);
        }
    }
}
