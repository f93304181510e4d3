import java.lang.reflect.Constructor;
import java.lang.reflect.Executable;
import java.lang.reflect.Field;
import java.lang.reflect.Method;
import java.lang.reflect.Modifier;
import java.util.ArrayList;
import java.util.HashSet;
import java.util.List;
import java.util.Set;
import java.util.TreeSet;

/** The class has the document's face and nothing else that can be seen (LANGUAGE.md, rules 1 and 2). */
public final class FaceTest {
    private static final String INDEX = "IndexOutOfBoundsException";
    private static final String STATE = "IllegalStateException";
    private static final String ARGUMENT = "IllegalArgumentException";
    private static final String UNSUPPORTED = "UnsupportedOperationException";

    private static final Set<String> FACE = Set.of(
            "DesignTrees()",
            "int module() " + STATE,
            "int port(int, int, boolean) " + INDEX + " " + STATE + " " + ARGUMENT,
            "int instance(int, int) " + INDEX + " " + STATE,
            "int net(int) " + INDEX + " " + STATE,
            "boolean join(int, int, int, int) " + INDEX,
            "boolean part(int, int, int) " + INDEX,
            "int netOf(int, int, int) " + INDEX,
            "int pins(int, int) " + INDEX,
            "int pin(int, int, int, int) " + INDEX,
            "int copy(int) " + INDEX + " " + STATE,
            "boolean shared(int, int) " + INDEX,
            "int flat(int) " + INDEX + " " + STATE + " " + UNSUPPORTED,
            "int path(int, int, int) " + INDEX,
            "int doubled(int, int) " + INDEX,
            "int open(int, int) " + INDEX,
            "boolean alike(int, int) " + INDEX,
            "int count(int, int) " + INDEX,
            "int moduleOf(int, int) " + INDEX,
            "int modules()",
            "int kinds()",
            "void clear()");

    private static int wrong = 0;

    public static void main(String[] args) {
        Class<?> face = DesignTrees.class;
        check("the class is public and final",
                Modifier.isPublic(face.getModifiers()) && Modifier.isFinal(face.getModifiers()));
        check("its calls are those of the document", seenCalls(face).equals(new TreeSet<>(FACE)));
        checkFields(face);
        checkInnerClasses(face);
        System.out.println(wrong == 0 ? "the face is as due" : wrong + " faults of the face");
        if (wrong != 0) {
            System.exit(1);
        }
    }

    private static void check(String what, boolean holds) {
        if (!holds) {
            wrong++;
            System.out.println("does not hold: " + what);
        }
    }

    private static Set<String> seenCalls(Class<?> face) {
        Set<String> seen = new TreeSet<>();
        for (Constructor<?> constructor : face.getDeclaredConstructors()) {
            seen.add(told("DesignTrees", constructor));
        }
        for (Method method : face.getDeclaredMethods()) {
            if (!Modifier.isPrivate(method.getModifiers())) {
                check(method.getName() + " is public", Modifier.isPublic(method.getModifiers()));
                seen.add(told(method.getReturnType().getSimpleName() + " " + method.getName(), method));
            }
        }
        return seen;
    }

    private static String told(String name, Executable call) {
        List<String> parameters = new ArrayList<>();
        for (Class<?> type : call.getParameterTypes()) {
            parameters.add(type.getSimpleName());
        }
        StringBuilder text = new StringBuilder(name + "(" + String.join(", ", parameters) + ")");
        for (Class<?> exception : call.getExceptionTypes()) {
            text.append(" ").append(exception.getSimpleName());
        }
        return text.toString();
    }

    private static void checkFields(Class<?> face) {
        for (Field field : face.getDeclaredFields()) {
            int modifiers = field.getModifiers();
            boolean constant = field.getName().equals("NONE")
                    && Modifier.isPublic(modifiers) && Modifier.isStatic(modifiers) && Modifier.isFinal(modifiers);
            check("field " + field.getName() + " is NONE or private", constant || Modifier.isPrivate(modifiers));
            check("field " + field.getName() + " is final if it is static",
                    !Modifier.isStatic(modifiers) || Modifier.isFinal(modifiers));
        }
    }

    private static void checkInnerClasses(Class<?> face) {
        Set<String> publicNames = new HashSet<>();
        List<Method> others = new ArrayList<>();
        for (Method method : face.getDeclaredMethods()) {
            if (Modifier.isPublic(method.getModifiers())) {
                publicNames.add(method.getName());
            } else {
                others.add(method);
            }
        }
        for (Class<?> inner : face.getDeclaredClasses()) {
            int modifiers = inner.getModifiers();
            check(inner.getSimpleName() + " is static and not public", Modifier.isStatic(modifiers)
                    && !Modifier.isPublic(modifiers) && !Modifier.isProtected(modifiers));
            others.addAll(List.of(inner.getDeclaredMethods()));
        }
        for (Method method : others) {
            check(method.getName() + " bears no public name", !publicNames.contains(method.getName()));
            check(method.getName() + " takes seven at most", method.getParameterCount() <= 7);
        }
    }
}
