import java.lang.reflect.Constructor;
import java.lang.reflect.Field;
import java.lang.reflect.Method;
import java.lang.reflect.Modifier;
import java.util.Arrays;
import java.util.Set;
import java.util.TreeSet;

/** The public face is the document's and no more. */
public final class FaceTest {
    private static final Set<String> METHODS = new TreeSet<>(Arrays.asList(
        "int emit(int, int, int)", "int drop()", "void restart()", "int run(int)", "boolean halted()",
        "int position()", "int depth()", "int register(int)", "int below(int, int)", "boolean put(int, int)",
        "int backTo(int)", "int digest()", "int done()"));

    private static final Set<String> CONSTANTS = new TreeSet<>(Arrays.asList("BAD", "FULL"));

    private static int wrong = 0;

    private static void check(String what, boolean holds) {
        if (!holds) {
            wrong++;
            System.out.println("not so: " + what);
        }
    }

    private static String text(Method m) {
        StringBuilder s = new StringBuilder(m.getReturnType().getSimpleName() + " " + m.getName() + "(");
        for (int i = 0; i < m.getParameterCount(); i++) {
            s.append(i == 0 ? "" : ", ").append(m.getParameterTypes()[i].getSimpleName());
        }
        return s.append(")").toString();
    }

    private static void checkMethods() {
        Set<String> open = new TreeSet<>();
        for (Method m : WindowedCalls.class.getDeclaredMethods()) {
            if (!Modifier.isPrivate(m.getModifiers())) {
                open.add(text(m));
                check(m + " is public and no static one",
                    Modifier.isPublic(m.getModifiers()) && !Modifier.isStatic(m.getModifiers()));
            }
        }
        check("the methods are " + METHODS + ", they were " + open, METHODS.equals(open));
    }

    private static void checkFields() {
        Set<String> open = new TreeSet<>();
        for (Field f : WindowedCalls.class.getDeclaredFields()) {
            int modifiers = f.getModifiers();
            if (!Modifier.isPrivate(modifiers)) {
                open.add(f.getName());
                check(f + " is a public int constant", Modifier.isPublic(modifiers)
                    && Modifier.isStatic(modifiers) && Modifier.isFinal(modifiers) && f.getType() == int.class);
            }
        }
        check("the constants are " + CONSTANTS + ", they were " + open, CONSTANTS.equals(open));
        check("BAD is -1", WindowedCalls.BAD == -1);
        check("FULL is -2", WindowedCalls.FULL == -2);
    }

    private static void checkClass() {
        int modifiers = WindowedCalls.class.getModifiers();
        check("the class is public and final", Modifier.isPublic(modifiers) && Modifier.isFinal(modifiers));
        check("no nested class", WindowedCalls.class.getDeclaredClasses().length == 0);
        check("it extends nothing", WindowedCalls.class.getSuperclass() == Object.class);
        check("it implements nothing", WindowedCalls.class.getInterfaces().length == 0);
        Constructor<?>[] constructors = WindowedCalls.class.getDeclaredConstructors();
        check("one constructor, public and without parameters", constructors.length == 1
            && Modifier.isPublic(constructors[0].getModifiers()) && constructors[0].getParameterCount() == 0);
    }

    public static void main(String[] args) {
        checkClass();
        checkMethods();
        checkFields();
        System.out.println(wrong == 0 ? "the face is the document's" : wrong + " things are not so");
        if (wrong != 0) {
            System.exit(1);
        }
    }
}
