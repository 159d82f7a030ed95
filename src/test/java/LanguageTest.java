import java.io.IOException;
import java.lang.reflect.Field;
import java.lang.reflect.Method;
import java.lang.reflect.Modifier;
import java.nio.file.Files;
import java.nio.file.Path;
import java.util.Arrays;
import java.util.HashSet;
import java.util.LinkedHashMap;
import java.util.Map;
import java.util.Set;
import java.util.TreeSet;
import java.util.regex.Matcher;
import java.util.regex.Pattern;

/**
 * One test for each rule of LANGUAGE.md, on the source and on the class. Where a rule leaves a choice, the test
 * holds the class to the plainest one (all arrays in the fields' initialisers, all loops counted ones).
 */
public final class LanguageTest {
    private static final Path SOURCE = Path.of("src/main/java/WindowedCalls.java");
    private static final int MIN = Integer.MIN_VALUE;
    private static final int MAX = Integer.MAX_VALUE;

    private static final Set<String> NUMBER_TYPES = new HashSet<>(Arrays.asList(
        "int", "long", "short", "byte", "char", "boolean"));

    private static final Set<String> KEYWORDS_BEFORE_PARENTHESES = new HashSet<>(Arrays.asList(
        "if", "for", "while", "switch", "return"));

    private static String code = "";
    /** The body of each method, the constructor among them, by name. */
    private static final Map<String, String> bodies = new LinkedHashMap<>();
    private static int wrong = 0;

    private static void check(int rule, String what, boolean holds) {
        if (!holds) {
            wrong++;
            System.out.println("rule " + rule + ", not so: " + what);
        }
    }

    private static boolean has(String pattern) {
        return Pattern.compile(pattern, Pattern.MULTILINE).matcher(code).find();
    }

    private static void without(int rule, String... words) {
        for (String word : words) {
            check(rule, "the source is without " + word, !has("\\b" + word + "\\b"));
        }
    }

    private static void readSource() throws IOException {
        code = Files.readString(SOURCE).replaceAll("(?s)/\\*.*?\\*/", " ").replaceAll("//[^\n]*", " ");
        Matcher m = Pattern.compile("(?ms)^    (?:public|private) [^=;{]*?(\\w+)\\([^)]*\\) \\{$(.*?)^    \\}$")
            .matcher(code);
        while (m.find()) {
            check(1, m.group(1) + " is there once", bodies.put(m.group(1), m.group(2)) == null);
        }
        int found = WindowedCalls.class.getDeclaredMethods().length + 1;
        check(1, "the body of each of " + found + " methods is found, " + bodies.size() + " were", bodies.size() == found);
    }

    private static void rule1OneClass() {
        int modifiers = WindowedCalls.class.getModifiers();
        check(1, "the class is public and final", Modifier.isPublic(modifiers) && Modifier.isFinal(modifiers));
        check(1, "one class alone", code.split("\\bclass\\b", -1).length == 2);
        without(1, "package", "interface", "enum", "record", "protected", "extends", "implements");
        Set<String> open = new HashSet<>();
        for (Method m : WindowedCalls.class.getDeclaredMethods()) {
            if (!Modifier.isPrivate(m.getModifiers())) {
                open.add(m.getName());
            }
        }
        for (Method m : WindowedCalls.class.getDeclaredMethods()) {
            check(1, m + " has a name of its own", !Modifier.isPrivate(m.getModifiers()) || !open.contains(m.getName()));
        }
    }

    private static void rule2Types() {
        without(2, "float", "double", "var", "String");
        check(2, "no text", !code.contains("\""));
        check(2, "no number with a point or an exponent", !has("\\d\\.|\\.\\d|\\b\\d+[eEfFdD]"));
        check(2, "arrays of one dimension", !has("\\]\\s*\\[\\s*\\]"));
        for (Field f : WindowedCalls.class.getDeclaredFields()) {
            Class<?> type = f.getType().isArray() ? f.getType().getComponentType() : f.getType();
            check(2, f + " has an allowed type", NUMBER_TYPES.contains(type.getName()));
        }
        check(2, "the class names itself where it and its constructor begin, not as a type",
            code.split("\\bWindowedCalls\\b", -1).length == 3);
    }

    private static void rule3NoLibrary() {
        without(3, "import", "java", "super");
        Matcher names = Pattern.compile("\\b[A-Z]\\w*[a-z]\\w*\\b").matcher(code);
        while (names.find()) {
            check(3, names.group() + " is no other class", names.group().equals("WindowedCalls"));
        }
        Matcher calls = Pattern.compile("\\b(\\w+)\\s*\\(").matcher(code);
        while (calls.find()) {
            String name = calls.group(1);
            check(3, name + " is a method of the class",
                bodies.containsKey(name) || KEYWORDS_BEFORE_PARENTHESES.contains(name));
        }
    }

    private static void rule4Arrays() {
        check(4, "arrays are made in the fields' initialisers alone, with a constant length",
            !has("^(?!    private final \\w+\\[\\] \\w+ = new \\w+\\[(?:[A-Z_]+|[1-9]\\d*)\\];$).*\\bnew\\b"));
        check(4, "no array is made by braces", !has("\\]\\s*\\w*\\s*=\\s*\\{"));
        without(4, "null");
        for (Method m : WindowedCalls.class.getDeclaredMethods()) {
            check(4, m + " answers no array", !m.getReturnType().isArray());
        }
        for (Map.Entry<String, String> e : bodies.entrySet()) {
            check(4, "no local variable of " + e.getKey() + " names an array",
                !Pattern.compile("\\b\\w+\\s*\\[\\s*\\]").matcher(e.getValue()).find());
        }
        for (Field f : WindowedCalls.class.getDeclaredFields()) {
            check(4, f + " stays the same array", !f.getType().isArray() || Modifier.isFinal(f.getModifiers()));
            check(4, f + " is never named but for an element of it, so never compared",
                !f.getType().isArray() || !has("\\b" + f.getName() + "\\b(?! = new |\\[)"));
        }
    }

    private static void rule5Statics() {
        check(5, "no static initialiser", !has("\\bstatic\\s*\\{"));
        for (Field f : WindowedCalls.class.getDeclaredFields()) {
            if (Modifier.isStatic(f.getModifiers())) {
                check(5, f + " is a constant of int or long", Modifier.isFinal(f.getModifiers())
                    && (f.getType() == int.class || f.getType() == long.class));
                check(5, f + " is known when compiled",
                    has("static final (?:int|long) " + f.getName() + " = [-\\w +*]+;$"));
            }
        }
    }

    private static void rule6Words() {
        without(6, "throw", "throws", "try", "catch", "finally", "synchronized", "assert", "instanceof");
        check(6, "no lambda and no method reference", !code.contains("->") && !code.contains("::"));
        check(6, "no cast to an array", !has("\\[\\s*\\]\\s*\\)\\s*[\\w(]"));
    }

    private static final int[] HOSTILE = {
        MIN, MIN + 1, -513, -201, -31, -25, -9, -8, -2, -1, 0, 1, 2, 3, 4, 5, 6, 7, 8, 9, 22, 23, 24, 25, 28, 29, 30,
        31, 123, 124, 125, 199, 200, 201, 511, 512, 513, MAX - 1, MAX};

    private static final int KINDS_OF_CALL = 15;

    // A fixed sequence of numbers, so that every run of the test makes the same calls.
    private static long seed;
    private static final int[] made = new int[KINDS_OF_CALL];
    private static int deepest = 0;

    private static int pick(int bound) {
        seed = seed * 6364136223846793005L + 1442695040888963407L;
        return (int) ((seed >>> 33) % bound);
    }

    private static int hostile() {
        return HOSTILE[pick(HOSTILE.length)];
    }

    /** Makes a call of that kind with whatever arguments come, and answers a number for its answer. */
    private static int anyCall(WindowedCalls x, int kind) {
        made[kind]++;
        switch (kind) {
            case 0: return x.emit(hostile(), hostile(), hostile());
            case 1: return x.emit(hostile() & 7, hostile() & 511, hostile());
            case 2: return x.emit(5, 0, pick(8));
            case 3: return x.drop();
            case 4: return x.run(hostile());
            case 5: return x.halted() ? 1 : 0;
            case 6: return x.position();
            case 7:
                deepest = Math.max(deepest, x.depth());
                return x.depth();
            case 8: return x.register(hostile());
            case 9: return x.below(hostile(), hostile());
            case 10: return x.put(hostile(), hostile()) ? 1 : 0;
            case 11: return x.backTo(hostile());
            case 12: return x.digest();
            case 13: return x.done();
            default:
                x.restart();
                return 0;
        }
    }

    /** The answers of a long run of calls on one object, mixed into one number; a throw ends the test. */
    private static long answersOf(int run, int calls) {
        seed = run;
        WindowedCalls x = new WindowedCalls();
        long mixed = 0;
        for (int i = 0; i < calls; i++) {
            mixed = 31 * mixed + anyCall(x, pick(KINDS_OF_CALL));
        }
        return mixed;
    }

    private static void rule7NoCallThrows() {
        for (int run = 0; run < 2000; run++) {
            answersOf(run, 512);
        }
        answersOf(7, 300000);
        // Without these the sequence would have stopped reaching what it is there for.
        for (int kind = 0; kind < KINDS_OF_CALL; kind++) {
            check(7, "calls of kind " + kind + " were made", made[kind] > 0);
        }
        check(7, "the runs reach 30 calls, they reached " + deepest, deepest == 30);
    }

    private static Set<String> callsOf(String method) {
        Set<String> called = new TreeSet<>();
        Matcher m = Pattern.compile("\\b(\\w+)\\s*\\(").matcher(bodies.get(method));
        while (m.find()) {
            if (bodies.containsKey(m.group(1))) {
                called.add(m.group(1));
            }
        }
        return called;
    }

    /** How deep the calls of a method go; more than there are methods if they come back to it. */
    private static int callDepth(String method, int above) {
        int deepest = above;
        if (above <= bodies.size()) {
            for (String called : callsOf(method)) {
                deepest = Math.max(deepest, callDepth(called, above + 1));
            }
        }
        return deepest;
    }

    private static void rule8NoRecursionAndCountedLoops() {
        for (String method : bodies.keySet()) {
            check(8, method + " never comes back to itself", callDepth(method, 1) <= bodies.size());
        }
        without(8, "while", "do");
        Matcher loops = Pattern.compile("\\bfor\\b.*").matcher(code);
        while (loops.find()) {
            check(8, loops.group() + " counts up to a bound",
                loops.group().matches("for \\(int (\\w+) = \\w+; \\1 < \\w+( && [^;]+)?; \\1\\+\\+\\) \\{"));
        }
    }

    private static void rule10Sizes() {
        for (Method m : WindowedCalls.class.getDeclaredMethods()) {
            check(10, m + " takes at most seven parameters", m.getParameterCount() <= 7);
        }
        for (Map.Entry<String, String> e : bodies.entrySet()) {
            check(10, e.getKey() + " has at most sixty lines", e.getValue().split("\n").length <= 60);
            check(10, "calls go at most six deep from " + e.getKey(), callDepth(e.getKey(), 1) <= 6);
            noCallInArguments(e.getKey(), e.getValue());
        }
        int fields = 0;
        for (Field f : WindowedCalls.class.getDeclaredFields()) {
            fields += Modifier.isStatic(f.getModifiers()) ? 0 : 1;
        }
        check(10, "at most forty fields", fields <= 40);
    }

    private static void noCallInArguments(String method, String body) {
        Matcher m = Pattern.compile("\\b(\\w+)\\s*\\(").matcher(body);
        while (m.find()) {
            if (!bodies.containsKey(m.group(1))) {
                continue;
            }
            int open = 1;
            int end = m.end();
            while (open > 0 && end < body.length()) {
                open += body.charAt(end) == '(' ? 1 : body.charAt(end) == ')' ? -1 : 0;
                end++;
            }
            String arguments = body.substring(m.end(), end);
            check(10, "no call stands in the arguments of " + m.group() + " in " + method,
                !Pattern.compile("\\w\\s*\\(").matcher(arguments).find());
        }
    }

    private static void rule11SameCallsSameAnswers() {
        for (int run = 0; run < 500; run++) {
            check(11, "the calls of run " + run + " answer the same again", answersOf(run, 512) == answersOf(run, 512));
        }
    }

    public static void main(String[] args) throws IOException {
        readSource();
        rule1OneClass();
        rule2Types();
        rule3NoLibrary();
        rule4Arrays();
        rule5Statics();
        rule6Words();
        rule7NoCallThrows();
        rule8NoRecursionAndCountedLoops();
        // Rule 9 says only what is fine.
        rule10Sizes();
        rule11SameCallsSameAnswers();
        System.out.println(wrong == 0 ? "the language is kept to" : wrong + " things are not so");
        if (wrong != 0) {
            System.exit(1);
        }
    }
}
