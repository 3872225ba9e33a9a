import java.util.Arrays;
import java.util.Random;

/** Random runs of calls, the same ones on EggsLast and on the model; seeds are fixed. */
public final class ModelTest {
    private static final Due DUE = new Due("model");
    private static final int RUNS = 700, CALLS = 512;

    private static final String[] ACTS = {
        "beeps", "beeps", "pack", "pack", "pack", "pack", "layBy", "putIn", "putIn", "takeOut", "swap", "undo",
    };
    private static final String[] CHEAP = {
        "row", "set", "copy", "drop", "fault", "undo", "thing", "thing", "thing", "bag", "stand", "top", "spare",
        "beside", "even", "astray", "heavy", "who", "colds", "tears", "drawn", "image", "restore", "kind", "as",
        "ask", "trace", "count", "status", "status",
    };
    private static final String SPOILERS = "e,;0123456789tbrscqz .A\u00ff\u0000";
    private static final String[] DEAR = {"least", "torn", "give", "order"};

    private final Random random;
    private final EggsLast x = new EggsLast();
    private final Model model = new Model();
    private final StringBuilder run = new StringBuilder();
    private int calls;
    private boolean lost;

    private ModelTest(long seed) {
        random = new Random(seed);
    }

    public static void main(String[] args) {
        everyByte("e2,20,3;t12,5;c1,0;");
        everyByte("e1,5,1;t1,0;b1,0;r1,0;s1,0;c1,0;t1,0;t1,0;");
        for (int seed = 1; seed <= RUNS && DUE.wrong() < 5; seed++) {
            new ModelTest(seed).play();
        }
        DUE.end();
    }

    /** A text with each of its bytes replaced by every byte there is, or one put ahead of it, or left out. */
    private static void everyByte(String text) {
        for (int at = 0; at <= text.length(); at++) {
            String ahead = text.substring(0, at);
            String behind = text.substring(at);
            for (int letter = 0; letter < 256; letter++) {
                sameText(ahead + (char) letter + behind);
                sameText(ahead + (char) letter + (behind.isEmpty() ? "" : behind.substring(1)));
            }
            sameText(ahead + (behind.isEmpty() ? "" : behind.substring(1)));
        }
    }

    private static void sameText(String text) {
        EggsLast x = new EggsLast();
        Model model = new Model();
        for (int i = 0; i < text.length(); i++) {
            x.feed(text.charAt(i));
            model.call("feed", text.charAt(i));
        }
        DUE.is("shop() of " + text, x.shop(), model.call("shop"));
        DUE.is("fault() of " + text, x.fault(), model.call("fault"));
    }

    private void play() {
        if (random.nextInt(3) > 0) {
            tellShop();
        }
        while (calls < CALLS && !lost) {
            int draw = random.nextInt(200);
            if (draw < 2) {
                tellShop();
            } else if (draw < 90) {
                one(ACTS[random.nextInt(ACTS.length)]);
            } else if (draw < 95) {
                one(DEAR[random.nextInt(DEAR.length)]);
            } else if (draw < 98) {
                tellTruly();
            } else if (draw < 103) {
                same(random.nextBoolean() ? "image" : "restore", random.nextInt(2));
                lookRound();
            } else {
                one(CHEAP[random.nextInt(CHEAP.length)]);
            }
        }
    }

    /** A text that is mostly right, and often spoilt by one byte. */
    private void tellShop() {
        StringBuilder text = new StringBuilder();
        text.append('e').append(number(1, 3)).append(',').append(number(5, 60)).append(',');
        text.append(random.nextBoolean() ? number(1, 40) : 1 + random.nextInt(5)).append(';');
        int things = random.nextInt(8) + (random.nextInt(3) > 0 ? 0 : 1);
        for (int i = 0; i < things; i++) {
            text.append("tbrsccs".charAt(random.nextInt(7))).append(number(1, 20)).append(',');
            text.append(number(0, 9)).append(';');
        }
        if (random.nextInt(3) == 0) {
            int at = random.nextInt(text.length());
            char c = SPOILERS.charAt(random.nextInt(SPOILERS.length()));
            int how = random.nextInt(3);
            if (how == 0) {
                text.setCharAt(at, c);
            } else if (how == 1) {
                text.insert(at, c);
            } else {
                text.deleteCharAt(at);
            }
        }
        for (int i = 0; i < text.length(); i++) {
            same("feed", text.charAt(i));
        }
        same("shop");
        same("fault");
        for (int i = 0; i < 4; i++) {
            one(DEAR[random.nextInt(DEAR.length)]);
        }
    }

    private String number(int least, int most) {
        int n = random.nextInt(60) == 0 ? random.nextInt(120) : least + random.nextInt(most - least + 1);
        return n < 10 && random.nextInt(20) == 0 ? "0" + n : Integer.toString(n);
    }

    /** Fills a row with what the BAGS weigh, or with what is crushed, often one off, and asks of it. */
    private void tellTruly() {
        int lane = random.nextInt(3);
        int from = random.nextInt(3);
        int things = (int) same("count", 1);
        int bags = (int) same("count", 2);
        if (things == 0 || bags == 0) {
            return;
        }
        int thing = random.nextInt(things);
        if (random.nextBoolean()) {
            same("row", 0, lane, from + bags);
            int off = random.nextInt(bags + 2);
            for (int bag = 0; bag < bags; bag++) {
                int weight = (int) same("bag", bag, 0);
                same("set", 0, from + bag, weight - (off == bag ? 1 + random.nextInt(9) : 0));
            }
            same("astray", 0, from);
            same("heavy", thing, 0, from);
        } else {
            same("row", 0, lane, from + things);
            int off = random.nextInt(things * 2);
            for (int t = 0; t < things; t++) {
                int broken = same("thing", t, 3) > same("thing", t, 5) ? 1 : 0;
                same("set", 0, from + t, off == t ? 1 - broken : broken);
            }
            same("who", thing, 0, 0, from);
            same("who", thing, 1, 0, from);
        }
        same("status");
    }

    private void lookRound() {
        for (int what = 0; what < 7; what++) {
            same("stand", what);
            same("thing", what, 3);
        }
        for (int bag = 0; bag < 3; bag++) {
            same("bag", bag, 2);
        }
    }

    private void one(String name) {
        switch (name) {
            case "row": same(name, any(8), any(3), near(0, 12, 40)); break;
            case "set": same(name, any(8), near(0, 12, 39), wide()); break;
            case "copy": same(name, any(3), any(5), any(3), any(5), any(6)); break;
            case "drop": same(name, any(8)); break;
            case "beeps": same(name, random.nextInt(4) > 0 ? 1 + any(3) : near(1, 24, 24)); break;
            case "pack": case "takeOut": case "top": same(name, any(3)); break;
            case "putIn": same(name, any(7), any(3)); break;
            case "thing": same(name, any(7), any(8)); break;
            case "bag": same(name, any(3), any(4)); break;
            case "stand": same(name, any(7)); break;
            case "least": same(name, near(-2, 6, 7)); break;
            case "order": same(name, any(3), near(-1, 6, 9)); break;
            case "spare": case "kind": case "trace": same(name, any(7)); break;
            case "beside": case "ask": same(name, any(7), any(2)); break;
            case "astray": same(name, any(8), any(3)); break;
            case "heavy": same(name, any(7), any(8), any(3)); break;
            case "who": same(name, any(7), any(2), any(8), any(3)); break;
            case "tears": same(name, any(8), any(11), any(2)); break;
            case "drawn": same(name, near(0, 60, 60), near(1, 999999, 999999), any(2)); break;
            case "give": case "colds": case "image": case "restore": same(name, any(2)); break;
            case "as": same(name, any(7), any(6)); break;
            case "count": same(name, any(8)); break;
            default: same(name);
        }
    }

    /** 0 to n - 1 mostly, and now and then just outside, or far. */
    private int any(int n) {
        return near(0, n - 1, n - 1);
    }

    private int near(int least, int most, int edge) {
        int draw = random.nextInt(40);
        if (draw == 0) {
            return least - 1;
        }
        if (draw == 1) {
            return edge + 1;
        }
        if (draw == 2) {
            return random.nextInt(4) == 0 ? wide() : edge;
        }
        return least + random.nextInt(most - least + 1);
    }

    private int wide() {
        switch (random.nextInt(6)) {
            case 0: return Integer.MIN_VALUE;
            case 1: return Integer.MAX_VALUE;
            case 2: return random.nextInt();
            case 3: return random.nextInt(400) - 200;
            case 4: return random.nextInt(100000) - 50000;
            default: return random.nextInt(3);
        }
    }

    private long same(String name, int... a) {
        if (lost) {
            return 0;
        }
        calls++;
        run.append(name).append(Arrays.toString(a)).append(' ');
        long want = model.call(name, a);
        long got = Calls.on(x, name, a);
        if (got != want) {
            lost = true;
            System.out.println(run);
        }
        DUE.is(name + Arrays.toString(a), got, want);
        return want;
    }
}
