import java.lang.reflect.Constructor;
import java.lang.reflect.Field;
import java.lang.reflect.Method;
import java.lang.reflect.Modifier;
import java.util.Arrays;
import java.util.Set;
import java.util.TreeSet;

/** The class has the public face of the document and no other. */
public final class FaceTests {
    private static int wrong = 0;

    private static void check(boolean holds, String what) {
        if (!holds) {
            wrong++;
            System.out.println("face: " + what);
        }
    }

    public static void main(String[] args) {
        modifiers();
        constants();
        methods();
        System.out.println(wrong == 0 ? "the face is as due" : wrong + " faults of the face");
        if (wrong != 0) System.exit(1);
    }

    private static void modifiers() {
        check(Modifier.isPublic(LoanChecker.class.getModifiers()), "the class is not public");
        check(Modifier.isFinal(LoanChecker.class.getModifiers()), "the class is not final");
        check(LoanChecker.class.getDeclaredClasses().length == 0, "there is a nested class");
        Constructor<?>[] constructors = LoanChecker.class.getDeclaredConstructors();
        check(constructors.length == 1, "there is not just one constructor");
        check(constructors[0].getParameterCount() == 0, "the constructor takes arguments");
        check(Modifier.isPublic(constructors[0].getModifiers()), "the constructor is not public");
    }

    private static void constants() {
        Set<String> names = new TreeSet<>();
        for (Field field : LoanChecker.class.getDeclaredFields()) {
            boolean isStatic = Modifier.isStatic(field.getModifiers());
            if (!Modifier.isPrivate(field.getModifiers())) {
                check(isStatic && field.getType() == int.class, field + " is no constant");
                names.add(field.getName());
            }
            if (isStatic) check(Modifier.isFinal(field.getModifiers()), field + " is static and not final");
        }
        check(names.equals(Set.of("BAD_ARG", "FULL", "NONE")), "the constants are " + names);
        check(LoanChecker.BAD_ARG == -1 && LoanChecker.FULL == -2 && LoanChecker.NONE == -3, "a constant is wrong");
    }

    private static void methods() {
        Set<String> due = new TreeSet<>(Arrays.asList("int point[int, int, int]", "int change[int, int, int, int]",
            "int drop[]", "int points[]", "boolean reached[int]", "int holds[int, int]", "boolean free[int, int]",
            "boolean wanted[int, int]", "int conflicts[int]", "boolean unset[int]", "boolean idle[int]",
            "int faults[]", "int firstFault[]", "int span[int]", "int broken[]", "int shown[int, int]"));
        Set<String> got = new TreeSet<>();
        Set<String> publicNames = new TreeSet<>();
        for (Method method : LoanChecker.class.getDeclaredMethods()) {
            check(method.getParameterCount() <= 7, method + " takes more than seven");
            if (Modifier.isPrivate(method.getModifiers())) continue;
            check(Modifier.isPublic(method.getModifiers()) && !Modifier.isStatic(method.getModifiers()), method + " is not public");
            got.add(method.getReturnType() + " " + method.getName() + Arrays.toString(method.getParameterTypes()));
            publicNames.add(method.getName());
        }
        check(got.equals(due), "the methods are " + got);
        for (Method method : LoanChecker.class.getDeclaredMethods()) {
            boolean isPrivate = Modifier.isPrivate(method.getModifiers());
            check(!isPrivate || !publicNames.contains(method.getName()), method + " has a public one's name");
        }
    }
}
