import java.lang.reflect.Array;
import java.lang.reflect.Constructor;
import java.lang.reflect.Field;
import java.lang.reflect.Method;
import java.lang.reflect.Modifier;
import java.util.ArrayDeque;
import java.util.Arrays;
import java.util.Collections;
import java.util.Deque;
import java.util.IdentityHashMap;
import java.util.Set;
import java.util.TreeSet;

/** The class has the document's face and no more, and an object keeps within its share of the room. */
public final class SandBenchFace {
    private static final String[] CONSTANTS = {
        "NUMBER", "FULL", "MISSING", "SIZE", "STATE", "KIND", "NEVER", "SPENT"};
    // Each method with how many ints it takes.
    private static final String[] METHODS = {
        "row 3", "cell 3", "told 2", "lose 1", "glass 4", "fill 3", "clear 0", "of 2", "glasses 0",
        "can 1", "hand 1", "next 0", "undo 0", "begin 0", "moment 0", "event 1",
        "reach 0", "config 3", "pure 1", "spans 1", "fewest 1", "plan 2", "soonest 1",
        "claim 1", "copy 1", "alter 2", "unclaim 0", "check 0"};
    private static final long SHARE = 100_000;

    private static int wrong;

    public static void main(String[] args) throws IllegalAccessException {
        due("the class is public and final", Modifier.PUBLIC | Modifier.FINAL, SandBench.class.getModifiers());
        constants();
        constructors();
        methods();
        room();
        System.out.println(wrong == 0 ? "all answers are as due" : wrong + " answers are not as due");
        if (wrong != 0) {
            System.exit(1);
        }
    }

    private static void due(String what, Object want, Object got) {
        if (!want.equals(got)) {
            wrong++;
            System.out.println(what + ": " + got + ", due is " + want);
        }
    }

    private static void constants() throws IllegalAccessException {
        Set<String> seen = new TreeSet<>();
        for (Field f : SandBench.class.getDeclaredFields()) {
            if (!Modifier.isPrivate(f.getModifiers())) {
                seen.add(f.getName());
                due(f + " is an int", int.class, f.getType());
                due(f + " is fixed", true, Modifier.isStatic(f.getModifiers()) && Modifier.isFinal(f.getModifiers()));
                due(f + " has its number", -1 - Arrays.asList(CONSTANTS).indexOf(f.getName()), f.getInt(null));
            }
        }
        due("the constants", new TreeSet<>(Arrays.asList(CONSTANTS)), seen);
    }

    private static void constructors() {
        Constructor<?>[] all = SandBench.class.getDeclaredConstructors();
        due("how many constructors", 1, all.length);
        due("the constructor takes", 0, all[0].getParameterCount());
        due("the constructor is public", true, Modifier.isPublic(all[0].getModifiers()));
    }

    private static void methods() {
        Set<String> seen = new TreeSet<>();
        for (Method m : SandBench.class.getDeclaredMethods()) {
            if (!Modifier.isPrivate(m.getModifiers())) {
                seen.add(m.getName() + " " + m.getParameterCount());
                due(m + " is public", Modifier.PUBLIC, m.getModifiers());
                due(m + " answers", int.class, m.getReturnType());
                for (Class<?> p : m.getParameterTypes()) {
                    due(m + " takes", int.class, p);
                }
            }
        }
        due("the methods", new TreeSet<>(Arrays.asList(METHODS)), seen);
    }

    private static void room() throws IllegalAccessException {
        SandBench x = new SandBench();
        long made = size(x);
        due("a new object is within its share", true, made < SHARE);
        x.row(0, 2, 3);
        for (int k = 0; k < 3; k++) {
            x.cell(0, k, new int[] {9, 8, 10}[k]);
            x.glass(k == 0 ? 0 : 2, 0, k, 0);
        }
        x.hand(1);
        x.next();
        x.fewest(60);
        x.soonest(60);
        x.copy(60);
        x.check();
        due("what it has grown to", made, size(x));
    }

    /** Fields and elements of all that an object holds. */
    private static long size(Object whole) throws IllegalAccessException {
        Set<Object> seen = Collections.newSetFromMap(new IdentityHashMap<>());
        Deque<Object> open = new ArrayDeque<>();
        open.add(whole);
        long size = 0;
        while (!open.isEmpty()) {
            Object o = open.remove();
            if (!seen.add(o)) {
                continue;
            }
            if (o.getClass().isArray()) {
                size += Array.getLength(o);
                if (!o.getClass().getComponentType().isPrimitive()) {
                    Arrays.stream((Object[]) o).filter(e -> e != null).forEach(open::add);
                }
                continue;
            }
            for (Field f : o.getClass().getDeclaredFields()) {
                if (!Modifier.isStatic(f.getModifiers())) {
                    size++;
                    f.setAccessible(true);
                    if (!f.getType().isPrimitive() && f.get(o) != null) {
                        open.add(f.get(o));
                    }
                }
            }
        }
        return size;
    }
}
