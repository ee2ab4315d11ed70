import java.io.IOException;
import java.lang.reflect.Field;
import java.lang.reflect.Method;
import java.lang.reflect.Modifier;
import java.nio.file.Files;
import java.nio.file.Path;
import java.util.ArrayList;
import java.util.List;
import java.util.Set;
import java.util.TreeSet;
import java.util.regex.Matcher;
import java.util.regex.Pattern;

/** What of LANGUAGE.md's rules can be seen in the file and in the classes that it makes. */
public final class SandBenchRules {
    private static final Path FILE = Path.of("src/main/java/SandBench.java");
    private static final Set<Class<?>> CONSTANTS = Set.of(int.class, long.class, boolean.class, char.class, String.class,
            int[].class, long[].class, char[].class, byte[].class);

    private static int wrong;

    public static void main(String[] args) throws IOException {
        List<Class<?>> classes = classes();
        String code = withoutComments(Files.readString(FILE));
        for (Class<?> c : classes) {
            nested(c);
            fields(c);
            methods(c);
        }
        holds("11: some twelve classes", classes.size() <= 12);
        words(code);
        lengths(code);
        System.out.println(wrong == 0 ? "all rules are kept" : wrong + " rules are not kept");
        if (wrong != 0) {
            System.exit(1);
        }
    }

    private static void holds(String rule, boolean is) {
        if (!is) {
            wrong++;
            System.out.println("rule " + rule);
        }
    }

    private static List<Class<?>> classes() {
        List<Class<?>> all = new ArrayList<>();
        all.add(SandBench.class);
        for (int k = 0; k < all.size(); k++) {
            all.addAll(List.of(all.get(k).getDeclaredClasses()));
        }
        return all;
    }

    private static void nested(Class<?> c) {
        if (c != SandBench.class) {
            int is = c.getModifiers();
            holds("1 and 2: private or package-visible, and static: " + c, Modifier.isStatic(is) && !Modifier.isPublic(is));
        }
    }

    private static void fields(Class<?> c) {
        int count = 0;
        for (Field f : c.getDeclaredFields()) {
            if (Modifier.isStatic(f.getModifiers())) {
                holds("5: static fields are final: " + f, Modifier.isFinal(f.getModifiers()));
                holds("5: constants of int, long, boolean, char or String: " + f, CONSTANTS.contains(f.getType()));
            } else {
                count++;
            }
        }
        holds("11: a class some twenty fields: " + c, count <= 20);
    }

    private static void methods(Class<?> c) {
        Set<String> face = new TreeSet<>();
        for (Method m : SandBench.class.getDeclaredMethods()) {
            if (Modifier.isPublic(m.getModifiers())) {
                face.add(m.getName());
            }
        }
        for (Method m : c.getDeclaredMethods()) {
            boolean isOfFace = c == SandBench.class && Modifier.isPublic(m.getModifiers());
            holds("1: no private method bears the name of a public one: " + m, isOfFace || !face.contains(m.getName()));
            holds("11: at most seven parameters: " + m, m.getParameterCount() <= 7);
        }
    }

    private static void words(String code) {
        for (String word : new String[] {"throw", "throws", "try", "catch", "synchronized", "assert", "package", "Thread",
            "Random", "System.nanoTime", "System.currentTimeMillis", "System.out", "hashCode", "equals", "toString"}) {
            holds("4, 6, 13: no " + word, !Pattern.compile("\\b" + Pattern.quote(word) + "\\b").matcher(code).find());
        }
        for (String sign : new String[] {"->", "::", "Exact", "\"", "while (true)", "for (;;)"}) {
            holds("2, 4, 9: no " + sign, !code.contains(sign));
        }
        Matcher m = Pattern.compile("import ([^;]+);").matcher(code);
        while (m.find()) {
            holds("4: only what stands in the list: " + m.group(1), m.group(1).equals("java.util.Arrays"));
        }
    }

    /** From a method's head to the brace that stands as far in. */
    private static void lengths(String code) {
        Matcher m = Pattern.compile(
                "(?ms)^( +)(?!if|for|while|switch|else|do)[\\w\\[\\]<> ]+\\([^;{]*\\) \\{$.*?^\\1\\}$").matcher(code);
        int seen = 0;
        while (m.find()) {
            seen++;
            holds("11: methods stay short: " + m.group().strip().split("\n")[0], m.group().lines().count() <= 60);
        }
        holds("11: methods were looked at", seen > 28);
    }

    private static String withoutComments(String text) {
        return text.replaceAll("(?s)/\\*.*?\\*/", "").replaceAll("//[^\n]*", "");
    }
}
