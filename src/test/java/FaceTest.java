import java.lang.reflect.Field;
import java.lang.reflect.Method;
import java.lang.reflect.Modifier;
import java.util.Arrays;
import java.util.HashSet;
import java.util.Set;
import java.util.TreeSet;

/** The class has the public face of the document, and nothing else that can be seen. */
public final class FaceTest {
    private static final String[] FACE = {
        "int link(int, int, int, int)", "int insert(int, int)", "int remove(int, int)",
        "int rekey(int, int, int)", "int refer(int, int, int, int)", "int value(int, int, int)",
        "int begin()", "int mark()", "int back()", "int commit()", "int rollback()",
        "int rows(int)", "int keyAt(int, int)", "int reference(int, int, int)",
        "int valueOf(int, int)", "int referrers(int, int)", "int wouldGo(int, int)",
        "int dangling()", "int sum(int)"};

    private static int wrong = 0;

    private static void check(boolean holds, String fault) {
        if (!holds) {
            wrong++;
            System.out.println(fault);
        }
    }

    private static String written(Method method) {
        StringBuilder text = new StringBuilder(method.getReturnType() + " " + method.getName() + "(");
        String gap = "";
        for (Class<?> type : method.getParameterTypes()) {
            text.append(gap).append(type);
            gap = ", ";
        }
        return text.append(")").toString();
    }

    private static void checkMethods(Class<?> type) {
        Set<String> seen = new TreeSet<>();
        Set<String> publicNames = new HashSet<>();
        for (Method method : type.getDeclaredMethods()) {
            if (!Modifier.isPrivate(method.getModifiers())) {
                check(method.getModifiers() == Modifier.PUBLIC, "not plainly public: " + method);
                seen.add(written(method));
                publicNames.add(method.getName());
            }
        }
        Set<String> due = new TreeSet<>(Arrays.asList(FACE));
        check(seen.equals(due), "methods are " + seen + ", due are " + due);
        for (Method method : type.getDeclaredMethods()) {
            check(!Modifier.isPrivate(method.getModifiers()) || !publicNames.contains(method.getName()),
                "a private method bears a public name: " + method);
        }
    }

    private static void checkFields(Class<?> type) {
        int own = 0;
        for (Field field : type.getDeclaredFields()) {
            int modifiers = field.getModifiers();
            check(Modifier.isPrivate(modifiers), "a field can be seen: " + field);
            if (Modifier.isStatic(modifiers)) {
                boolean number = field.getType() == int.class || field.getType() == long.class;
                check(number && Modifier.isFinal(modifiers), "not a constant: " + field);
            } else {
                own++;
            }
        }
        check(own <= 40, "too many fields: " + own);
    }

    public static void main(String[] args) {
        Class<?> type = ReferenceTables.class;
        check(type.getModifiers() == (Modifier.PUBLIC | Modifier.FINAL), "not public and final alone");
        check(type.getSuperclass() == Object.class, "has a superclass");
        check(type.getInterfaces().length == 0, "has an interface");
        check(type.getDeclaredClasses().length == 0, "has a class inside");
        check(type.getPackageName().isEmpty(), "has a package");
        check(type.getDeclaredConstructors().length == 1, "has other constructors");
        check(type.getConstructors().length == 1
            && type.getConstructors()[0].getParameterCount() == 0, "lacks the public constructor");
        checkMethods(type);
        checkFields(type);
        System.out.println(wrong == 0 ? "the face is as due" : wrong + " faults");
        if (wrong != 0) {
            System.exit(1);
        }
    }
}
