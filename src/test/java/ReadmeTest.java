import java.nio.file.Files;
import java.nio.file.Path;
import java.util.Set;
import java.util.TreeSet;
import java.util.regex.Matcher;
import java.util.regex.Pattern;

/** What README.md shows is what the class answers, and it names every call. */
public final class ReadmeTest {
    private static final Due DUE = new Due("readme");
    private static final Pattern TEXT = Pattern.compile("String text = \"([^\"]*)\";.*");
    private static final Pattern CALL = Pattern.compile("x\\.(\\w+)\\(([-0-9, ]*)\\);\\s*// (-?\\d+): .*");

    public static void main(String[] args) throws Exception {
        String readme = Files.readString(Path.of("README.md"));
        int begin = readme.indexOf("```java\n") + "```java\n".length();
        runs(readme.substring(begin, readme.indexOf("```", begin)));
        names(readme);
        DUE.end();
    }

    private static void runs(String block) {
        EggsLast x = new EggsLast();
        int calls = 0;
        for (String line : block.split("\n")) {
            Matcher text = TEXT.matcher(line);
            if (text.matches()) {
                Due.tell(x, text.group(1));
            }
            Matcher call = CALL.matcher(line);
            boolean told = call.matches();
            DUE.holds(line + ": its answer is told", told || !line.startsWith("x."));
            if (told) {
                DUE.is(line, Calls.on(x, call.group(1), numbers(call.group(2))), Long.parseLong(call.group(3)));
                calls++;
            }
        }
        DUE.holds("README.md shows some calls", calls > 10);
    }

    private static int[] numbers(String told) {
        String[] parts = told.isBlank() ? new String[0] : told.split(", ");
        int[] numbers = new int[parts.length];
        for (int i = 0; i < parts.length; i++) {
            numbers[i] = Integer.parseInt(parts[i]);
        }
        return numbers;
    }

    private static void names(String readme) {
        Set<String> named = new TreeSet<>();
        Matcher name = Pattern.compile("`(\\w+)`").matcher(readme);
        while (name.find()) {
            named.add(name.group(1));
        }
        for (java.lang.reflect.Method method : EggsLast.class.getDeclaredMethods()) {
            boolean open = java.lang.reflect.Modifier.isPublic(method.getModifiers());
            DUE.holds("README.md names " + method.getName(), !open || named.contains(method.getName()));
        }
    }

    private ReadmeTest() {
    }
}
