import java.io.File;
import java.io.IOException;
import java.lang.reflect.Field;
import java.lang.reflect.Method;
import java.lang.reflect.Modifier;
import java.nio.file.Files;
import java.nio.file.Path;
import java.util.regex.Matcher;
import java.util.regex.Pattern;

/** README.md's example holds, call by call, and the page has every constant and every test. */
public final class SandBenchReadme {
    private static final String START = "SandBench x = new SandBench();";
    private static final Pattern CALL = Pattern.compile("x\\.(\\w+)\\(([-\\d, ]*)\\); +// (-?\\d+|[A-Z]+)(:.*)?");

    private static int wrong;

    public static void main(String[] args) throws IOException, ReflectiveOperationException {
        String page = Files.readString(Path.of("README.md"));
        playExample(page);
        for (Field f : SandBench.class.getFields()) {
            holds("README.md's table has " + f.getName(), page.contains("| `" + f.getName() + "` | " + f.getInt(null) + " |"));
        }
        for (String file : filesOf("src/test/java")) {
            holds("README.md tells of " + file, page.contains("- `" + file.replace(".java", "") + "` "));
        }
        holds("README.md tells how to run the tests", page.contains("```sh\n.ci/run\n```"));
        System.out.println(wrong == 0 ? "all that README.md says holds" : wrong + " things of README.md do not hold");
        if (wrong != 0) {
            System.exit(1);
        }
    }

    private static void holds(String what, boolean is) {
        if (!is) {
            wrong++;
            System.out.println("does not hold: " + what);
        }
    }

    private static String[] filesOf(String folder) {
        String[] names = new File(folder).list((where, name) -> name.endsWith(".java"));
        return names == null ? new String[0] : names;
    }

    /** Every line must be the start, a call with its answer, a comment or empty, so that none goes by unseen. */
    private static void playExample(String page) throws ReflectiveOperationException {
        int start = page.indexOf("```java\n" + START);
        int end = start < 0 ? -1 : page.indexOf("\n```", start + 1);
        holds("README.md has an example", end >= 0);
        if (end < 0) {
            return;
        }
        SandBench bench = new SandBench();
        int calls = 0;
        for (String line : page.substring(start, end).lines().skip(2).toList()) {
            Matcher m = CALL.matcher(line);
            if (m.matches()) {
                calls++;
                int got = answer(bench, m.group(1), m.group(2));
                holds(line + " (it answers " + got + ")", got == due(m.group(3)));
            } else {
                holds("a line of the example is a call: " + line, line.isEmpty() || line.startsWith("// "));
            }
        }
        holds("the example has calls", calls > 0);
    }

    private static int answer(SandBench bench, String name, String numbers) throws ReflectiveOperationException {
        for (Method m : SandBench.class.getDeclaredMethods()) {
            if (m.getName().equals(name) && Modifier.isPublic(m.getModifiers())) {
                String[] told = numbers.isBlank() ? new String[0] : numbers.split(", ");
                Object[] args = new Object[told.length];
                for (int k = 0; k < told.length; k++) {
                    args[k] = Integer.valueOf(told[k]);
                }
                return (Integer) m.invoke(bench, args);
            }
        }
        throw new NoSuchMethodException(name);
    }

    private static int due(String told) throws ReflectiveOperationException {
        return Character.isLetter(told.charAt(0)) ? SandBench.class.getField(told).getInt(null) : Integer.parseInt(told);
    }
}
