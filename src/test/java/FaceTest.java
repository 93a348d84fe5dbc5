import java.lang.reflect.Constructor;
import java.lang.reflect.Field;
import java.lang.reflect.Method;
import java.lang.reflect.Modifier;
import java.util.Set;
import java.util.TreeSet;

/** The public face is the document's, and nothing else of the class can be seen from outside. */
public final class FaceTest {
    private static final Set<String> DUE = Set.of(
        "public static final int LateJobAdmit.BAD",
        "public static final int LateJobAdmit.FULL",
        "public static final int LateJobAdmit.NONE",
        "public LateJobAdmit()",
        "public int LateJobAdmit.put(int,int,boolean)",
        "public int LateJobAdmit.drop(int)",
        "public boolean LateJobAdmit.makeFirm(int,boolean)",
        "public int LateJobAdmit.jobs()",
        "public boolean LateJobAdmit.feasible(int)",
        "public int LateJobAdmit.mostInTime()",
        "public int LateJobAdmit.leastTime()",
        "public boolean LateJobAdmit.affordable(int)",
        "public boolean LateJobAdmit.welcome(int,int)",
        "public int LateJobAdmit.elapse(int)");

    public static void main(String[] args) {
        Set<String> seen = visibleMembers();
        int wrong = 0;
        for (String member : DUE) {
            wrong += complainIf(!seen.contains(member), "missing: " + member);
        }
        for (String member : seen) {
            wrong += complainIf(!DUE.contains(member), "not in the document: " + member);
        }
        int modifiers = LateJobAdmit.class.getModifiers();
        wrong += complainIf(modifiers != (Modifier.PUBLIC | Modifier.FINAL), "the class is not public and final alone");
        wrong += complainIf(LateJobAdmit.class.getDeclaredClasses().length != 0, "there is a nested class");
        wrong += faultsInFields() + faultsInMethods();
        System.out.println(wrong == 0 ? "the face is as due" : wrong + " faults in the face");
        if (wrong != 0) {
            System.exit(1);
        }
    }

    private static Set<String> visibleMembers() {
        Set<String> seen = new TreeSet<>();
        for (Field field : LateJobAdmit.class.getDeclaredFields()) {
            if (!Modifier.isPrivate(field.getModifiers())) {
                seen.add(field.toString());
            }
        }
        for (Constructor<?> constructor : LateJobAdmit.class.getDeclaredConstructors()) {
            if (!Modifier.isPrivate(constructor.getModifiers())) {
                seen.add(constructor.toString());
            }
        }
        for (Method method : LateJobAdmit.class.getDeclaredMethods()) {
            if (!Modifier.isPrivate(method.getModifiers())) {
                seen.add(method.toString());
            }
        }
        return seen;
    }

    /** Rules 2, 5 and 10 of LANGUAGE.md, as far as they can be told from the compiled class. */
    private static int faultsInFields() {
        int wrong = 0;
        int variables = 0;
        for (Field field : LateJobAdmit.class.getDeclaredFields()) {
            Class<?> type = field.getType();
            if (Modifier.isStatic(field.getModifiers())) {
                boolean isConstant = Modifier.isFinal(field.getModifiers()) && (type == int.class || type == long.class);
                wrong += complainIf(!isConstant, "static, but no constant of int or long: " + field);
            } else {
                variables++;
                wrong += complainIf(!isAllowed(type), "of a type that is not allowed: " + field);
            }
        }
        return wrong + complainIf(variables > 40, "more than 40 fields");
    }

    /** Rules 1, 2 and 10 of LANGUAGE.md, as far as they can be told from the compiled class. */
    private static int faultsInMethods() {
        int wrong = 0;
        Set<String> publicNames = new TreeSet<>();
        for (Method method : LateJobAdmit.class.getMethods()) {
            publicNames.add(method.getName());
        }
        for (Method method : LateJobAdmit.class.getDeclaredMethods()) {
            boolean isHidden = Modifier.isPrivate(method.getModifiers());
            wrong += complainIf(isHidden && publicNames.contains(method.getName()), "bears a public name: " + method);
            wrong += complainIf(method.getParameterCount() > 7, "more than seven parameters: " + method);
            wrong += complainIf(method.getReturnType().isArray(), "answers an array: " + method);
            for (Class<?> type : method.getParameterTypes()) {
                wrong += complainIf(!isAllowed(type), "takes a type that is not allowed: " + method);
            }
        }
        return wrong;
    }

    private static boolean isAllowed(Class<?> type) {
        Class<?> element = type.isArray() ? type.getComponentType() : type;
        return element.isPrimitive() && element != float.class && element != double.class;
    }

    private static int complainIf(boolean fault, String what) {
        if (fault) {
            System.out.println(what);
        }
        return fault ? 1 : 0;
    }
}
