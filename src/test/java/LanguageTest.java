import java.lang.reflect.Field;
import java.lang.reflect.Method;
import java.lang.reflect.Modifier;
import java.util.HashSet;
import java.util.Set;

/** The rules of LANGUAGE.md that the compiled class shows; the others are for the reader. */
public final class LanguageTest {
    private static final Class<?> TYPE = SexpMotion.class;
    private static int wrong = 0;

    public static void main(String[] args) {
        rule(1, "no nested class", TYPE.getDeclaredClasses().length == 0);
        rule(1, "nothing above the class but Object", TYPE.getSuperclass() == Object.class);
        rule(1, "no interface", TYPE.getInterfaces().length == 0);
        rule(1, "no package", TYPE.getPackageName().isEmpty());
        methods();
        fields();
        System.out.println(wrong + " rules broken");
        if (wrong != 0) {
            System.exit(1);
        }
    }

    private static void rule(int number, String what, boolean kept) {
        if (!kept) {
            wrong++;
            System.out.println("rule " + number + " is broken: " + what);
        }
    }

    private static void methods() {
        Set<String> publicNames = new HashSet<>();
        for (Method one : TYPE.getDeclaredMethods()) {
            if (Modifier.isPublic(one.getModifiers())) publicNames.add(one.getName());
        }
        for (Method one : TYPE.getDeclaredMethods()) {
            boolean isPublic = Modifier.isPublic(one.getModifiers());
            rule(1, one + " bears its name alone", isPublic || !publicNames.contains(one.getName()));
            rule(2, one + " answers a number or nothing", one.getReturnType() == void.class || isNumber(one.getReturnType()));
            rule(10, one + " takes at most seven", one.getParameterCount() <= 7);
            for (Class<?> parameter : one.getParameterTypes()) {
                rule(2, one + " takes numbers and arrays", isNumber(parameter) || isArrayOfNumbers(parameter));
            }
            // A lambda, a switch on enums or the like would leave a method of the compiler's own.
            rule(6, one + " is written by hand", !one.isSynthetic());
        }
    }

    private static void fields() {
        int beside = 0;
        for (Field one : TYPE.getDeclaredFields()) {
            Class<?> type = one.getType();
            rule(2, one + " is a number or an array", isNumber(type) || isArrayOfNumbers(type));
            if (Modifier.isStatic(one.getModifiers())) {
                rule(5, one + " is final", Modifier.isFinal(one.getModifiers()));
                rule(5, one + " is int or long", type == int.class || type == long.class);
            } else {
                beside++;
                rule(4, one + " is final, if an array", !type.isArray() || Modifier.isFinal(one.getModifiers()));
            }
        }
        rule(10, "some forty fields beside the constants", beside <= 40);
    }

    private static boolean isNumber(Class<?> type) {
        return type.isPrimitive() && type != float.class && type != double.class && type != void.class;
    }

    private static boolean isArrayOfNumbers(Class<?> type) {
        return type.isArray() && isNumber(type.getComponentType());
    }
}
