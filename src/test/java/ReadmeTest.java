import java.io.IOException;
import java.lang.reflect.Method;
import java.lang.reflect.Modifier;
import java.nio.file.Files;
import java.nio.file.Path;
import java.util.regex.Matcher;
import java.util.regex.Pattern;

/** README.md says how to use the class: each call of its example answers the number that stands behind it. */
public final class ReadmeTest {
    private static final Pattern CALL = Pattern.compile("x\\.(\\w+)\\(([^)]*)\\);\\s*// (-?\\d+)\\b.*");

    private static int wrong = 0;

    public static void main(String[] args) throws IOException, ReflectiveOperationException {
        String readme = Files.readString(Path.of("README.md"));
        int calls = example(readme);
        must(calls >= 10, "the example has only " + calls + " calls");
        for (Method m : SunBills.class.getDeclaredMethods()) {
            if (Modifier.isPublic(m.getModifiers())) {
                must(readme.contains("`" + m.getName() + "`"), m.getName() + " isn't told");
            }
        }
        must(readme.contains("bash .ci/run"), "how to run the tests isn't told");
        for (String test : Path.of("src/test/java").toFile().list((folder, name) -> name.endsWith("Test.java"))) {
            must(readme.contains("`" + test.replace(".java", "") + "`"), test + " isn't told");
        }
        System.out.println("readme: " + calls + " calls, " + wrong + " wrong");
        if (wrong != 0) {
            System.exit(1);
        }
    }

    private static void must(boolean so, String what) {
        if (!so) {
            wrong++;
            System.out.println("readme: " + what);
        }
    }

    private static int example(String readme) throws ReflectiveOperationException {
        int from = readme.indexOf("```java\n");
        int to = readme.indexOf("```", from + 3);
        must(from >= 0 && to > from, "there is no example");
        if (wrong != 0) {
            return 0;
        }
        SunBills x = new SunBills();
        int calls = 0;
        for (String line : readme.substring(from + 8, to).split("\n")) {
            Matcher m = CALL.matcher(line);
            if (m.matches()) {
                calls++;
                long got = answer(x, m.group(1), m.group(2));
                must(got == Long.parseLong(m.group(3)), line + " answered " + got);
            } else {
                must(line.startsWith("//") || line.equals("SunBills x = new SunBills();"), "no call with its answer: " + line);
            }
        }
        return calls;
    }

    private static long answer(SunBills x, String name, String numbers) throws ReflectiveOperationException {
        String[] parts = numbers.isEmpty() ? new String[0] : numbers.split(", ");
        Class<?>[] types = new Class<?>[parts.length];
        Object[] values = new Object[parts.length];
        for (int i = 0; i < parts.length; i++) {
            types[i] = int.class;
            values[i] = Integer.decode(parts[i]);
        }
        return ((Number) SunBills.class.getMethod(name, types).invoke(x, values)).longValue();
    }
}
