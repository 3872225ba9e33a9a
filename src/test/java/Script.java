import java.util.ArrayList;
import java.util.List;

/**
 * A sentence of the document with a run of calls on a new object, told in lines.
 *
 * <p>"pack 0 = 1" calls pack(0), and 1 is due; without "=" every answer is due but a refusal. Numbers may
 * be words (BAD, MIN ..), sums (128+5) and letters ('e'). "40* beeps 24" does a line 40 times. Besides:
 * "tell TEXT" feeds a text; "shop TEXT" feeds and reads it; "laid TEXT" lays all its THINGS by, too;
 * "into BAG THINGS" packs what is LAID BY; "fill ROW LANE ITEMS" makes a ROW of these ITEMS.
 *
 * <p>Behind every line that is one call (of a line done many times, the last time) it is looked whether the
 * call changed anything that it must not: so each refused call of each run is a test that it changes
 * nothing but status(). What lines as "laid" make ready is not looked at; it may not be refused.
 */
final class Script {
    private final Due due;
    private final String sentence;
    private final List<Call> calls = new ArrayList<>();
    private final EggsLast x = new EggsLast();

    private Script(Due due, String sentence) {
        this.due = due;
        this.sentence = sentence;
    }

    static void says(Due due, String sentence, String lines) {
        Script script = new Script(due, sentence);
        for (String line : lines.strip().split("\n")) {
            script.line(line.strip());
        }
    }

    private void line(String line) {
        int star = line.indexOf("* ");
        if (star > 0) {
            int times = Integer.parseInt(line.substring(0, star));
            for (int i = 1; i < times; i++) {
                step(line.substring(star + 2), false);
            }
        }
        step(line.substring(star > 0 ? star + 2 : 0), true);
    }

    private void step(String line, boolean looked) {
        String[] sides = line.split(" = ");
        String[] words = sides[0].split(" ");
        boolean told = words.length > 1;
        if (words[0].equals("tell") || words[0].equals("laid") || words[0].equals("shop") && told) {
            tell(words[1]);
            if (words[0].equals("tell")) {
                return;
            }
        }
        switch (words[0]) {
            case "laid": laid(); break;
            case "into": into(numbers(words)); break;
            case "fill": fill(numbers(words)); break;
            case "shop": call(new Call("shop"), sides, looked && !told); break;
            default: call(new Call(words[0], numbers(words)), sides, looked);
        }
    }

    private void tell(String text) {
        for (int i = 0; i < text.length(); i++) {
            ready("feed", text.charAt(i));
        }
    }

    private void laid() {
        ready("shop");
        ready("beeps", 7);
        long things = x.count(1);
        for (int i = 0; i < things; i++) {
            ready("layBy");
        }
    }

    private void into(int[] numbers) {
        for (int i = 1; i < numbers.length; i++) {
            ready("putIn", numbers[i], numbers[0]);
        }
    }

    private void fill(int[] numbers) {
        ready("row", numbers[0], numbers[1], numbers.length - 2);
        for (int i = 2; i < numbers.length; i++) {
            ready("set", numbers[0], i - 2, numbers[i]);
        }
    }

    private void ready(String name, int... numbers) {
        call(new Call(name, numbers), new String[] {name}, false);
    }

    private void call(Call call, String[] sides, boolean looked) {
        calls.add(call);
        long answer = call.on(x);
        String shown = sentence + ": call " + calls.size() + ", " + call.shown();
        if (sides.length > 1) {
            due.is(shown, answer, number(sides[1]));
        } else {
            due.holds(shown + ", which answers " + answer + " and not a refusal", !Changes.isRefusal(answer));
        }
        if (looked) {
            Changes.look(due, shown, calls, answer);
        }
    }

    private static int[] numbers(String[] words) {
        int[] numbers = new int[words.length - 1];
        for (int i = 0; i < numbers.length; i++) {
            numbers[i] = number(words[i + 1]);
        }
        return numbers;
    }

    private static int number(String text) {
        int sum = 0;
        for (String part : text.strip().split("\\+")) {
            sum += part(part);
        }
        return sum;
    }

    private static int part(String text) {
        switch (text) {
            case "MIN": return Integer.MIN_VALUE;
            case "MAX": return Integer.MAX_VALUE;
            case "NONE": return -1000000;
            case "BAD": return -1000001;
            case "STATE": return -1000002;
            case "FULL": return -1000003;
            case "NULL": return -1000011;
            case "PLACE": return -1000012;
            case "KIND": return -1000013;
            case "SIZE": return -1000014;
            case "STORE": return -1000015;
            default: return text.startsWith("'") ? text.charAt(1) : Integer.parseInt(text);
        }
    }

    /** One call by its name, so that a run can be done again. */
    static final class Call {
        final String name;
        private final int[] numbers;

        Call(String name, int... numbers) {
            this.name = name;
            this.numbers = numbers;
        }

        long on(EggsLast x) {
            return Calls.on(x, name, numbers);
        }

        String shown() {
            StringBuilder text = new StringBuilder(name).append('(');
            for (int i = 0; i < numbers.length; i++) {
                text.append(i == 0 ? "" : ", ").append(numbers[i]);
            }
            return text.append(')').toString();
        }
    }
}
