import java.lang.reflect.Constructor;
import java.lang.reflect.Field;
import java.lang.reflect.Method;
import java.lang.reflect.Modifier;
import java.util.ArrayList;
import java.util.Collections;
import java.util.List;

/** The public face: all that the document lists, and nothing more that can be seen from outside. */
public final class FaceTest {
    private static final Due due = new Due();
    private static final String STATE = "IllegalStateException";
    private static final String ARGUMENT = "IllegalArgumentException";
    private static final String INDEX = "IndexOutOfBoundsException";

    public static void main(String[] args) {
        due.about("The public face");
        Class<?> face = LeanSets.class;
        due.same("public and final, not abstract", face.getModifiers(), Modifier.PUBLIC | Modifier.FINAL);
        due.same("it extends nothing", face.getSuperclass() == Object.class ? 1 : 0, 1);
        due.same("it implements nothing", face.getInterfaces().length, 0);
        sameList("methods", methods(face), List.of(
                "int type(long, int)",
                "int read()",
                "int place()",
                "int count(int) " + STATE + " " + ARGUMENT,
                "int value(int) " + STATE + " " + ARGUMENT,
                "int least(int, int, int) " + STATE + " " + ARGUMENT,
                "int extreme(long, int) " + STATE + " " + INDEX + " " + ARGUMENT,
                "void tell(int, int) " + STATE + " " + INDEX + " " + ARGUMENT,
                "int surplus() " + STATE,
                "int worst(int) " + STATE + " " + ARGUMENT,
                "int tight(int) " + STATE + " " + INDEX,
                "int turns() " + STATE,
                "int turn(int, int) " + STATE + " " + INDEX + " " + ARGUMENT,
                "int point(int, int) " + STATE + " " + INDEX + " " + ARGUMENT,
                "int check() " + STATE));
        fields(face);
        constructors(face);
        nested(face);
        due.end();
    }

    private static List<String> methods(Class<?> face) {
        List<String> seen = new ArrayList<>();
        for (Method method : face.getDeclaredMethods()) {
            if (Modifier.isPrivate(method.getModifiers()) || method.isSynthetic()) {
                continue;
            }
            due.same(method + " is public and no more", method.getModifiers(), Modifier.PUBLIC);
            StringBuilder text = new StringBuilder();
            text.append(method.getReturnType().getSimpleName()).append(' ').append(method.getName());
            text.append(names(method.getParameterTypes()).toString().replace('[', '(').replace(']', ')'));
            for (String thrown : names(method.getExceptionTypes())) {
                text.append(' ').append(thrown);
            }
            seen.add(text.toString());
        }
        return seen;
    }

    private static List<String> names(Class<?>[] classes) {
        List<String> names = new ArrayList<>();
        for (Class<?> one : classes) {
            names.add(one.getSimpleName());
        }
        return names;
    }

    private static void fields(Class<?> face) {
        List<String> seen = new ArrayList<>();
        for (Field field : face.getDeclaredFields()) {
            if (!Modifier.isPrivate(field.getModifiers()) && !field.isSynthetic()) {
                seen.add(Modifier.toString(field.getModifiers()) + " " + field.getType() + " " + field.getName());
            }
            boolean state = Modifier.isStatic(field.getModifiers()) && !Modifier.isFinal(field.getModifiers());
            due.same("static state " + field.getName(), state ? 1 : 0, 0);
        }
        sameList("fields", seen, List.of("public static final int NONE"));
        due.same("NONE", LeanSets.NONE, -1);
    }

    private static void constructors(Class<?> face) {
        List<String> seen = new ArrayList<>();
        for (Constructor<?> constructor : face.getDeclaredConstructors()) {
            seen.add(constructor.toString());
        }
        sameList("constructors", seen, List.of("public LeanSets()"));
    }

    private static void nested(Class<?> face) {
        for (Class<?> inside : face.getDeclaredClasses()) {
            int modifiers = inside.getModifiers();
            boolean hidden = !Modifier.isPublic(modifiers) && !Modifier.isProtected(modifiers);
            due.same(inside + " is not public, and static", hidden && Modifier.isStatic(modifiers) ? 1 : 0, 1);
        }
    }

    private static void sameList(String what, List<String> seen, List<String> want) {
        List<String> some = new ArrayList<>(seen);
        List<String> others = new ArrayList<>(want);
        Collections.sort(some);
        Collections.sort(others);
        if (!some.equals(others)) {
            due.fail(what + " are " + some + ", due are " + others);
        }
    }
}
