import java.io.IOException;
import java.lang.reflect.Method;
import java.lang.reflect.Modifier;
import java.util.ArrayList;
import java.util.HashMap;
import java.util.HashSet;
import java.util.List;
import java.util.Map;
import java.util.Set;
import java.util.TreeSet;

/** The rules of the language that are seen best in what is compiled. */
public final class CodeTest {
    private static final Due DUE = new Due("code");
    private static final int MOST_DEEP = 8;

    /** What rule 4 lists, as far as the class uses it, and what each constructor calls. */
    private static final Set<String> LIBRARY = Set.of("java/lang/Object.<init>", "java/lang/Integer.bitCount",
        "java/lang/Math.max", "java/lang/Math.min", "java/lang/System.arraycopy");

    /** Divides by BAGS, behind a look whether there are any. */
    private static final Set<String> LOOKS_AT_DIVISOR = Set.of("EggsLast$Shop.goTrip");

    private static final Set<Integer> MAKES = Set.of(ClassFile.NEW, ClassFile.NEW_ARRAY, ClassFile.NEW_ARRAY_OF,
        ClassFile.NEW_ARRAYS);
    private static final Set<Integer> DIVIDES = Set.of(ClassFile.INT_DIV, ClassFile.LONG_DIV, ClassFile.INT_REST,
        ClassFile.LONG_REST);
    private static final Set<Integer> RULED_OUT = Set.of(ClassFile.THROW, ClassFile.INVOKE_DYNAMIC,
        ClassFile.MONITOR_ENTER, ClassFile.MONITOR_EXIT);

    private static final Map<String, Set<String>> CALLED = new HashMap<>();

    public static void main(String[] args) throws IOException {
        List<Class<?>> classes = new ArrayList<>(List.of(EggsLast.class.getDeclaredClasses()));
        classes.add(EggsLast.class);
        for (Class<?> one : classes) {
            ClassFile file = new ClassFile(one);
            DUE.is("handlers in " + one, file.handlers, 0);
            DUE.holds(one + " was read", !file.steps.isEmpty());
            for (int i = 0; i < file.steps.size(); i++) {
                look(file.steps.get(i), i == 0 ? -1 : file.steps.get(i - 1).code());
            }
        }
        for (String method : CALLED.keySet()) {
            DUE.holds(method + " calls at most eight deep", depthOf(method, new HashSet<>()) <= MOST_DEEP);
        }
        for (Class<?> one : classes) {
            recursion(one);
        }
        DUE.end();
    }

    private static void look(ClassFile.Step step, int codeAhead) {
        boolean own = step.owner().isEmpty() || step.owner().startsWith("EggsLast");
        if (!step.name().isEmpty()) {
            DUE.holds(step + ": rule 4 lists it", own || LIBRARY.contains(step.target()));
        }
        DUE.holds(step + " is within the rules", !RULED_OUT.contains(step.code()));
        if (MAKES.contains(step.code())) {
            DUE.holds(step + " makes it in a constructor", step.method().endsWith("init>"));
        }
        if (DIVIDES.contains(step.code())) {
            DUE.holds(step + " divides by a number that is told", isConstant(codeAhead)
                || LOOKS_AT_DIVISOR.contains(step.method()));
        }
        if (step.isCall()) {
            CALLED.computeIfAbsent(step.method(), any -> new TreeSet<>()).add(step.target());
        }
    }

    /** Pushes of numbers other than 0, or from the table of constants. */
    private static boolean isConstant(int code) {
        return code == 2 || code >= 4 && code <= 8 || code == 10 || code >= 16 && code <= 20;
    }

    private static int depthOf(String method, Set<String> open) {
        if (!open.add(method)) {
            return 0;
        }
        int deepest = 0;
        for (String next : CALLED.getOrDefault(method, Set.of())) {
            deepest = Math.max(deepest, depthOf(next, open));
        }
        open.remove(method);
        return deepest + 1;
    }

    /** Rule 8: what calls itself is private and static; none calls itself by way of another. */
    private static void recursion(Class<?> one) {
        for (Method method : one.getDeclaredMethods()) {
            String name = one.getName() + "." + method.getName();
            Set<String> next = CALLED.getOrDefault(name, Set.of());
            int modifiers = method.getModifiers();
            DUE.holds(method + " is private and static, as it calls itself",
                !next.contains(name) || Modifier.isPrivate(modifiers) && Modifier.isStatic(modifiers));
            for (String other : next) {
                DUE.holds(method + " does not call itself by way of " + other,
                    other.equals(name) || !reaches(other, name, new HashSet<>()));
            }
        }
    }

    private static boolean reaches(String from, String to, Set<String> seen) {
        if (from.equals(to)) {
            return true;
        }
        if (!seen.add(from)) {
            return false;
        }
        for (String next : CALLED.getOrDefault(from, Set.of())) {
            if (reaches(next, to, seen)) {
                return true;
            }
        }
        return false;
    }

    private CodeTest() {
    }
}
