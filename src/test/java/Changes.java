import java.util.ArrayList;
import java.util.List;

/**
 * What a call changed, found by doing its run twice, with the call and without, and by looking at both
 * objects. Looking spoils an object, so each part of the state is looked at in two new ones.
 */
final class Changes {
    private static final int MOST_CALLS = 512;

    /** The parts of the state, each a bit of what a call may change. */
    private enum Part {
        SHOP, ACTS, IMAGES, ROWS, TAPE, FAULT, STATUS, TRACE;

        int bit() {
            return 1 << ordinal();
        }
    }

    private final EggsLast x = new EggsLast();
    private final List<Long> seen = new ArrayList<>();
    private int calls;

    private Changes(List<Script.Call> run) {
        for (Script.Call call : run) {
            call.on(x);
        }
        calls = run.size();
    }

    static boolean isRefusal(long answer) {
        return answer >= -1000003 && answer <= -1000001 || isFinding(answer);
    }

    private static boolean isFinding(long answer) {
        return answer >= -1000015 && answer <= -1000011;
    }

    static void look(Due due, String shown, List<Script.Call> run, long answer) {
        String name = run.get(run.size() - 1).name;
        List<Script.Call> ahead = run.subList(0, run.size() - 1);
        int may = mayChange(name, answer);
        for (Part part : Part.values()) {
            if ((may & part.bit()) == 0 && (part != Part.ROWS || hasRows(run))) {
                due.holds(shown + " leaves " + part, seenOf(part, ahead).equals(seenOf(part, run)));
            }
        }
        if ((may & Part.STATUS.bit()) != 0) {
            long want = isFinding(answer) ? -1000010 - answer : 0;
            due.is("status() behind " + shown, seenOf(Part.STATUS, run).get(0), want);
        }
    }

    private static int mayChange(String name, long answer) {
        if (isFinding(answer)) {
            return Part.STATUS.bit();
        }
        if (isRefusal(answer)) {
            return 0;
        }
        switch (name) {
            case "row": case "set": case "copy": case "drop": return Part.ROWS.bit() | Part.STATUS.bit();
            case "feed": return Part.TAPE.bit();
            case "shop":
                return Part.TAPE.bit() | (answer < 0 ? Part.FAULT.bit() : Part.SHOP.bit() | Part.ACTS.bit());
            case "undo": case "beeps": case "pack": case "layBy": case "putIn": case "takeOut": case "swap":
            case "restore": return Part.SHOP.bit() | Part.ACTS.bit();
            case "astray": case "heavy": case "who": case "as": return Part.STATUS.bit();
            case "image": return Part.IMAGES.bit();
            case "ask": return Part.TRACE.bit();
            default: return 0;
        }
    }

    private static boolean hasRows(List<Script.Call> run) {
        for (Script.Call call : run) {
            if (call.name.equals("row")) {
                return true;
            }
        }
        return false;
    }

    private static List<Long> seenOf(Part part, List<Script.Call> run) {
        if (part == Part.ROWS) {
            return rows(run);
        }
        Changes changes = new Changes(run);
        switch (part) {
            case SHOP: changes.shop(); break;
            case ACTS: changes.acts(); break;
            case IMAGES: changes.images(); break;
            case TAPE: changes.tape(); break;
            case FAULT: changes.see("fault"); break;
            case STATUS: changes.see("status"); break;
            default: changes.trace();
        }
        return changes.seen;
    }

    private long see(String name, int... numbers) {
        calls++;
        if (calls > MOST_CALLS) {
            throw new IllegalStateException("an object is used for more than " + MOST_CALLS + " calls");
        }
        long answer = Calls.on(x, name, numbers);
        seen.add(answer);
        return answer;
    }

    private void places() {
        for (int what = 0; what < 7; what++) {
            see("stand", what);
        }
        for (int bag = 0; bag < 3; bag++) {
            see("bag", bag, 1);
            see("bag", bag, 2);
        }
    }

    private void shop() {
        places();
        for (int what = 1; what < 6; what++) {
            see("count", what);
        }
        for (int thing = 0; thing < 7; thing++) {
            see("kind", thing);
            see("thing", thing, 0);
            see("thing", thing, 1);
            see("thing", thing, 3);
            see("beside", thing, 0);
        }
        see("torn");
        see("drawn", 20, 7, 0);
        see("drawn", 20, 7, 1);
        for (int bag = 0; bag < 3; bag++) {
            see("bag", bag, 3);
        }
        int[] beeps = {1, 1, 2, 24};
        for (int n : beeps) {
            see("beeps", n);
            see("stand", 4);
            see("stand", 6);
        }
    }

    private void acts() {
        see("count", 6);
        for (int i = 0; i < 25; i++) {
            see("undo");
            see("count", 3);
            see("stand", 0);
            see("stand", 2);
            see("stand", 3);
            see("stand", 5);
            see("stand", 6);
            see("bag", 0, 2);
            see("bag", 1, 2);
        }
    }

    private void images() {
        for (int k = 0; k < 2; k++) {
            if (see("restore", k) == 1) {
                places();
                see("count", 3);
                see("count", 5);
                see("torn");
                see("beeps", 3);
                see("stand", 4);
            }
        }
    }

    private void tape() {
        see("count", 7);
        if (see("shop") > 0) {
            places();
            see("thing", 0, 0);
            see("thing", 0, 1);
            see("kind", 0);
        }
        see("fault");
    }

    private void trace() {
        for (int i = -1; i < 18; i++) {
            see("trace", i);
        }
    }

    /** A ROW's ITEMS are read by a BAG with one THING in it: astray() tells 0 and 1, heavy() 1 to 20. */
    private static List<Long> rows(List<Script.Call> run) {
        List<Long> seen = new ArrayList<>();
        for (int row = 0; row < 8; row++) {
            Changes changes = new Changes(run);
            changes.see("count", 0);
            changes.row(row);
            seen.addAll(changes.seen);
        }
        return seen;
    }

    private void row(int row) {
        x.shop();
        calls++;
        String text = "e1,60,1;t1,0;";
        for (int i = 0; i < text.length(); i++) {
            see("feed", text.charAt(i));
        }
        see("shop");
        see("beeps", 1);
        see("pack", 0);
        for (int i = 0; i < 40 && see("astray", row, i) >= 0; i++) {
            see("heavy", 0, row, i);
        }
        see("set", row, 0, 0x12345678);
        see("drop", row);
    }
}
