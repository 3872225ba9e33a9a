import java.lang.reflect.Constructor;
import java.lang.reflect.Field;
import java.lang.reflect.Method;
import java.lang.reflect.Modifier;
import java.nio.file.Files;
import java.nio.file.Path;
import java.util.Arrays;
import java.util.Set;
import java.util.TreeSet;
import java.util.regex.Matcher;
import java.util.regex.Pattern;

/** The face of the class, and the rules of the language that can be seen from outside or in the text. */
public final class RulesTest {
    private static final Due DUE = new Due("rules");

    private static final String[] FACE = {
        "int row(int, int, int)", "int set(int, int, int)", "int copy(int, int, int, int, int)",
        "int drop(int)", "int feed(int)", "int shop()", "int fault()", "int undo()", "int beeps(int)",
        "int pack(int)", "int layBy()", "int putIn(int, int)", "int takeOut(int)", "int swap()",
        "int thing(int, int)", "int bag(int, int)", "int stand(int)", "int least(int)", "int torn()",
        "int give(int)", "int order(int, int)", "int top(int)", "int spare(int)", "int beside(int, int)",
        "int even()", "int astray(int, int)", "int heavy(int, int, int)", "int who(int, int, int, int)",
        "int colds(int)", "long tears(int, int, int)", "int drawn(int, int, int)", "int image(int)",
        "int restore(int)", "int kind(int)", "int as(int, int)", "int ask(int, int)", "int trace(int)",
        "int count(int)", "int status()",
    };

    private static final String[] FORBIDDEN = {
        "throw", "throws", "try", "catch", "finally", "synchronized", "assert", "import", "package",
        "protected", "volatile", "transient", "native", "Object", "Random", "Thread", "System.out",
        "addExact", "multiplyExact", "->", "::",
    };

    /** All of the library that the class uses; constants of the library are not among what rule 4 lists. */
    private static final Set<String> LIBRARY = Set.of("Integer.bitCount", "Math.max", "Math.min",
        "System.arraycopy");
    private static final Pattern OF_LIBRARY =
        Pattern.compile("\\b(Integer|Long|Math|System|String|StringBuilder|Arrays|List|ArrayList)\\b(\\.\\w+)?");

    public static void main(String[] args) throws Exception {
        face();
        members();
        text(args.length > 0 ? args[0] : "src/main/java/EggsLast.java");
        DUE.end();
    }

    private static void face() {
        Set<String> want = new TreeSet<>(Arrays.asList(FACE));
        Set<String> have = new TreeSet<>();
        Set<String> publicNames = new TreeSet<>();
        for (Method method : EggsLast.class.getDeclaredMethods()) {
            if (Modifier.isPublic(method.getModifiers())) {
                have.add(signature(method));
                publicNames.add(method.getName());
            }
        }
        DUE.holds("the face is " + want + ", have " + have, want.equals(have));
        for (Method method : EggsLast.class.getDeclaredMethods()) {
            if (!Modifier.isPublic(method.getModifiers())) {
                DUE.holds(method + " is private", Modifier.isPrivate(method.getModifiers()));
                DUE.holds(method + " has a name of its own", !publicNames.contains(method.getName()));
            }
        }
        for (Class<?> one : EggsLast.class.getDeclaredClasses()) {
            for (Method method : one.getDeclaredMethods()) {
                DUE.holds(method + " has a name of its own", !publicNames.contains(method.getName()));
            }
        }
        for (Constructor<?> made : EggsLast.class.getDeclaredConstructors()) {
            DUE.holds(made + " is the public one", Modifier.isPublic(made.getModifiers()));
            DUE.is("its parameters", made.getParameterCount(), 0);
        }
        DUE.holds("the class is final", Modifier.isFinal(EggsLast.class.getModifiers()));
    }

    private static String signature(Method method) {
        StringBuilder text = new StringBuilder(method.getReturnType().getName());
        text.append(' ').append(method.getName()).append('(');
        for (Class<?> type : method.getParameterTypes()) {
            text.append(text.charAt(text.length() - 1) == '(' ? "" : ", ").append(type.getName());
        }
        return text.append(')').toString();
    }

    private static void members() {
        Set<String> constants = new TreeSet<>(Arrays.asList("NONE", "BAD", "STATE", "FULL"));
        for (Field field : EggsLast.class.getDeclaredFields()) {
            boolean told = constants.contains(field.getName());
            DUE.holds(field + " is as told", Modifier.isPublic(field.getModifiers()) == told);
            DUE.holds(field + " is hidden", told || Modifier.isPrivate(field.getModifiers()));
        }
        Class<?>[] inside = EggsLast.class.getDeclaredClasses();
        DUE.holds("some twelve classes", inside.length <= 11);
        noNulls(EggsLast.class);
        for (Class<?> one : inside) {
            noNulls(one);
            DUE.holds(one + " is static", Modifier.isStatic(one.getModifiers()));
            DUE.holds(one + " is hidden", !Modifier.isPublic(one.getModifiers()));
            int fields = 0;
            for (Field field : one.getDeclaredFields()) {
                boolean isStatic = Modifier.isStatic(field.getModifiers());
                fields += isStatic ? 0 : 1;
                DUE.holds(field + " is final", !isStatic || Modifier.isFinal(field.getModifiers()));
            }
            DUE.holds(one + " has some twenty fields", fields <= 20);
            for (Method method : one.getDeclaredMethods()) {
                DUE.holds(method + " takes at most seven", method.getParameterCount() <= 7);
            }
        }
    }

    /** A field for an object that is final is there from the constructor on: it need not be looked at. */
    private static void noNulls(Class<?> one) {
        for (Field field : one.getDeclaredFields()) {
            boolean mayBeNull = !field.getType().isPrimitive() && !Modifier.isFinal(field.getModifiers());
            DUE.holds(field + " can't be null", !mayBeNull);
        }
    }

    private static void text(String path) throws Exception {
        String code = withoutComments(Files.readString(Path.of(path)));
        Matcher library = OF_LIBRARY.matcher(code);
        while (library.find()) {
            DUE.holds("rule 4 lists " + library.group(), LIBRARY.contains(library.group()));
        }
        for (String word : FORBIDDEN) {
            boolean isName = Character.isLetter(word.charAt(0));
            String pattern = isName ? "(?s).*\\b" + word.replace(".", "\\.") + "\\b.*" : null;
            boolean there = isName ? code.matches(pattern) : code.contains(word);
            DUE.holds("no " + word + " in the code", !there);
        }
        int begun = 0;
        String[] lines = code.split("\n");
        for (int i = 0; i < lines.length; i++) {
            if (lines[i].matches(" {4}(| {4})[a-z][^;=]*\\) \\{")) {
                begun = i;
            }
            if (lines[i].matches(" {4}(| {4})\\}")) {
                DUE.holds("the method at line " + (begun + 1) + " is short", begun == 0 || i - begun <= 60);
                begun = 0;
            }
        }
    }

    /** Keeps the line ends, so that a line's number stays what it is in the file. */
    private static String withoutComments(String code) {
        StringBuilder kept = new StringBuilder();
        boolean inside = false;
        for (String line : code.split("\n", -1)) {
            String bare = line.trim();
            boolean comment = inside || bare.startsWith("/*") || bare.startsWith("//");
            inside = (inside || bare.startsWith("/*")) && !bare.endsWith("*/");
            kept.append(comment ? "" : line).append('\n');
        }
        return kept.toString();
    }

    private RulesTest() {
    }
}
