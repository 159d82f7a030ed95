import java.lang.reflect.Constructor;
import java.lang.reflect.Field;
import java.lang.reflect.Method;
import java.lang.reflect.Modifier;
import java.io.IOException;
import java.nio.file.Files;
import java.nio.file.Path;
import java.util.Arrays;
import java.util.HashSet;
import java.util.Set;
import java.util.TreeSet;
import java.util.regex.Pattern;

/** The public face is the document's and no more, and the source keeps to what can be told of LANGUAGE.md. */
public final class FaceTest {
    private static final Path SOURCE = Path.of("src/main/java/WindowedCalls.java");

    private static final Set<String> METHODS = new TreeSet<>(Arrays.asList(
        "int emit(int, int, int)", "int drop()", "void restart()", "int run(int)", "boolean halted()",
        "int position()", "int depth()", "int register(int)", "int below(int, int)", "boolean put(int, int)",
        "int backTo(int)", "int digest()", "int done()"));

    private static final Set<String> CONSTANTS = new TreeSet<>(Arrays.asList("BAD", "FULL"));

    private static final Set<Class<?>> TYPES = new HashSet<>(Arrays.asList(
        int.class, long.class, short.class, byte.class, char.class, boolean.class,
        int[].class, long[].class, short[].class, byte[].class, char[].class, boolean[].class));

    private static final String[] FORBIDDEN = {
        "import", "package", "throw", "throws", "try", "catch", "finally", "synchronized", "assert", "instanceof",
        "null", "float", "double", "String", "Math", "Integer", "System", "Arrays", "Object", "interface", "enum",
        "record", "var", "protected"};

    private static int wrong = 0;

    private static void check(String what, boolean holds) {
        if (!holds) {
            wrong++;
            System.out.println("not so: " + what);
        }
    }

    private static String text(Method m) {
        StringBuilder s = new StringBuilder(m.getReturnType().getSimpleName() + " " + m.getName() + "(");
        for (int i = 0; i < m.getParameterCount(); i++) {
            s.append(i == 0 ? "" : ", ").append(m.getParameterTypes()[i].getSimpleName());
        }
        return s.append(")").toString();
    }

    private static void checkMethods() {
        Set<String> open = new TreeSet<>();
        Set<String> names = new HashSet<>();
        for (Method m : WindowedCalls.class.getDeclaredMethods()) {
            if (!Modifier.isPrivate(m.getModifiers())) {
                open.add(text(m));
                names.add(m.getName());
                check(m + " is public and no static one",
                    Modifier.isPublic(m.getModifiers()) && !Modifier.isStatic(m.getModifiers()));
            }
        }
        check("the methods are " + METHODS + ", they were " + open, METHODS.equals(open));
        for (Method m : WindowedCalls.class.getDeclaredMethods()) {
            check(m + " takes at most seven parameters", m.getParameterCount() <= 7);
            if (Modifier.isPrivate(m.getModifiers())) {
                check(m + " has a name of its own", !names.contains(m.getName()));
            }
        }
    }

    private static void checkFields() {
        Set<String> open = new TreeSet<>();
        for (Field f : WindowedCalls.class.getDeclaredFields()) {
            int modifiers = f.getModifiers();
            check(f + " has an allowed type", TYPES.contains(f.getType()));
            if (!Modifier.isPrivate(modifiers)) {
                open.add(f.getName());
                check(f + " is a public int constant", Modifier.isPublic(modifiers)
                    && Modifier.isStatic(modifiers) && f.getType() == int.class);
            }
            if (Modifier.isStatic(modifiers)) {
                check(f + " is a constant of int or long", Modifier.isFinal(modifiers)
                    && (f.getType() == int.class || f.getType() == long.class));
            }
        }
        check("the constants are " + CONSTANTS + ", they were " + open, CONSTANTS.equals(open));
    }

    private static void checkClass() {
        int modifiers = WindowedCalls.class.getModifiers();
        check("the class is public and final", Modifier.isPublic(modifiers) && Modifier.isFinal(modifiers));
        check("no nested class", WindowedCalls.class.getDeclaredClasses().length == 0);
        check("it extends nothing", WindowedCalls.class.getSuperclass() == Object.class);
        check("it implements nothing", WindowedCalls.class.getInterfaces().length == 0);
        Constructor<?>[] constructors = WindowedCalls.class.getDeclaredConstructors();
        check("one constructor, public and without parameters", constructors.length == 1
            && Modifier.isPublic(constructors[0].getModifiers()) && constructors[0].getParameterCount() == 0);
    }

    private static void checkSource() throws IOException {
        String code = Files.readString(SOURCE).replaceAll("(?s)/\\*.*?\\*/", " ").replaceAll("//[^\n]*", " ");
        for (String word : FORBIDDEN) {
            check("the source is without " + word, !Pattern.compile("\\b" + word + "\\b").matcher(code).find());
        }
        check("the source is without a lambda or a method reference", !code.contains("->") && !code.contains("::"));
        check("arrays are made in the fields' initialisers alone",
            !Pattern.compile("(?m)^(?!    private final ).*\\bnew\\b").matcher(code).find());
    }

    public static void main(String[] args) throws IOException {
        checkClass();
        checkMethods();
        checkFields();
        checkSource();
        System.out.println(wrong == 0 ? "the face is the document's" : wrong + " things are not so");
        if (wrong != 0) {
            System.exit(1);
        }
    }
}
