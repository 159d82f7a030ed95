import java.io.IOException;
import java.lang.reflect.Method;
import java.lang.reflect.Modifier;
import java.nio.file.Files;
import java.nio.file.Path;
import java.util.Arrays;
import java.util.Set;
import java.util.TreeSet;
import java.util.regex.Matcher;
import java.util.regex.Pattern;

/** The example of README.md answers what README.md says, and its tables leave no operation and no method out. */
public final class ReadmeTest {
    private static final Path README = Path.of("README.md");
    private static final Pattern CALL = Pattern.compile("x\\.(\\w+)\\(([-\\d, ]*)\\); +// (-?\\d+|true|false)\\b.*");
    private static final String FIRST_LINE = "WindowedCalls x = new WindowedCalls();";
    private static final String[] OPERATIONS = {"SET a n", "ADD a b c", "SUB a b c", "JUMP n", "COPY a b", "CALL n",
        "RETURN", "ZERO a n"};

    private static int wrong = 0;

    private static void check(String what, boolean holds) {
        if (!holds) {
            wrong++;
            System.out.println("not so: " + what);
        }
    }

    private static Object[] numbers(String text) {
        return text.isEmpty() ? new Object[0] : Arrays.stream(text.split(", *")).map(Integer::valueOf).toArray();
    }

    private static Object answer(WindowedCalls x, String name, Object[] arguments) throws ReflectiveOperationException {
        Class<?>[] ints = new Class<?>[arguments.length];
        Arrays.fill(ints, int.class);
        return WindowedCalls.class.getMethod(name, ints).invoke(x, arguments);
    }

    private static void exampleHolds(String readme) throws ReflectiveOperationException {
        Matcher block = Pattern.compile("(?s)```java\n(.*?)```").matcher(readme);
        check("README.md has an example", block.find());
        String[] lines = block.group(1).split("\n");
        check("the example begins with a new object", lines[0].equals(FIRST_LINE));
        check("the example has calls", lines.length > 1);
        check("README.md has one example", !block.find());
        WindowedCalls x = new WindowedCalls();
        for (String line : Arrays.asList(lines).subList(1, lines.length)) {
            Matcher call = CALL.matcher(line);
            check("a call and its answer: " + line, call.matches());
            if (call.matches()) {
                String got = String.valueOf(answer(x, call.group(1), numbers(call.group(2))));
                check(line + " (it answered " + got + ")", got.equals(call.group(3)));
            }
        }
    }

    private static void tablesAreWhole(String readme) {
        for (int op = 0; op < OPERATIONS.length; op++) {
            check("the table has operation " + op, readme.contains("\n| " + op + " | " + OPERATIONS[op] + " | "));
        }
        Set<String> told = new TreeSet<>();
        Matcher row = Pattern.compile("(?m)^\\| `(\\w+)\\(([\\w, ]*)\\)` \\|").matcher(readme);
        while (row.find()) {
            told.add(row.group(1) + " " + (row.group(2).isEmpty() ? 0 : row.group(2).split(",").length));
        }
        Set<String> there = new TreeSet<>();
        for (Method m : WindowedCalls.class.getDeclaredMethods()) {
            if (Modifier.isPublic(m.getModifiers())) {
                there.add(m.getName() + " " + m.getParameterCount());
            }
        }
        check("the table has the methods " + there + ", it had " + told, there.equals(told));
    }

    private static void testsAreNamed(String readme) throws IOException {
        try (var files = Files.list(Path.of("src/test/java"))) {
            files.map(file -> file.getFileName().toString().replace(".java", "")).forEach(
                name -> check("README.md tells of " + name, readme.contains("- `" + name + "`: ")));
        }
    }

    public static void main(String[] args) throws Exception {
        String readme = Files.readString(README);
        exampleHolds(readme);
        tablesAreWhole(readme);
        testsAreNamed(readme);
        System.out.println(wrong == 0 ? "README.md is right" : wrong + " things are not so");
        if (wrong != 0) {
            System.exit(1);
        }
    }
}
