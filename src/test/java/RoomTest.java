import java.lang.management.ManagementFactory;
import java.util.Random;

/** Whatever the numbers: nothing throws, nothing takes long, and no call makes an object. */
public final class RoomTest {
    private static final Due DUE = new Due("room");
    private static final String[] NAMES = {
        "row", "set", "copy", "drop", "feed", "shop", "fault", "undo", "beeps", "pack", "layBy", "putIn",
        "takeOut", "swap", "thing", "bag", "stand", "least", "torn", "give", "order", "top", "spare", "beside",
        "even", "astray", "heavy", "who", "colds", "tears", "drawn", "image", "restore", "kind", "as", "ask",
        "trace", "count", "status",
    };
    private static final int[] NUMBERS = {
        Integer.MIN_VALUE, -1000001, -41, -8, -3, -2, -1, 0, 1, 2, 3, 4, 5, 6, 7, 8, 9, 10, 11, 24, 25, 39, 40,
        41, 60, 61, 120, 255, 256, 999, 1000, 999999, 1000000, Integer.MAX_VALUE,
    };

    public static void main(String[] args) {
        wildRuns();
        calls();
        objects();
        DUE.end();
    }

    /** Any numbers, in any state, on one object and far beyond its 512 calls. */
    private static void wildRuns() {
        Random random = new Random(40);
        String last = "";
        try {
            for (int run = 0; run < 40; run++) {
                EggsLast x = run % 4 == 0 ? new EggsLast() : Due.shopOf("e3,20,2;s2,5;t9,0;c4,2;b12,0;r6,0;c3,9;s1,9;");
                for (int i = 0; i < 20000; i++) {
                    last = NAMES[random.nextInt(NAMES.length)];
                    int[] a = new int[5];
                    for (int j = 0; j < a.length; j++) {
                        a[j] = NUMBERS[random.nextInt(NUMBERS.length)];
                    }
                    Calls.on(x, last, a);
                }
            }
        } catch (RuntimeException thrown) {
            DUE.holds(last + " threw " + thrown, false);
        }
    }

    /** The dearest SHOP that there is: seven THINGS, three BAGS, none of which crushes another. */
    private static EggsLast dearest() {
        return Due.shopOf("e3,60,1;t20,0;t20,0;t20,0;t19,0;t18,0;t17,0;t16,0;");
    }

    private static void calls() {
        com.sun.management.ThreadMXBean threads =
            (com.sun.management.ThreadMXBean) ManagementFactory.getThreadMXBean();
        long self = Thread.currentThread().getId();
        EggsLast x = dearest();
        everyCall(x);
        long ahead = threads.getThreadAllocatedBytes(self);
        long none = threads.getThreadAllocatedBytes(self) - ahead;
        long begun = threads.getThreadAllocatedBytes(self);
        for (int i = 0; i < 20; i++) {
            everyCall(x);
        }
        long made = threads.getThreadAllocatedBytes(self) - begun - none;
        DUE.holds("calls make no objects, not " + made + " bytes of them", made < 320);
    }

    private static void everyCall(EggsLast x) {
        x.row(0, 0, 40);
        x.set(0, 0, 1);
        x.copy(0, 0, 0, 1, 3);
        x.beeps(3);
        x.pack(0);
        x.layBy();
        x.putIn(1, 1);
        x.takeOut(1);
        x.swap();
        for (int k = -2; k < 7; k++) {
            x.least(k);
            x.order(0, k);
        }
        x.torn();
        x.give(0);
        x.give(1);
        x.top(0);
        x.spare(0);
        x.beside(0, 0);
        x.even();
        x.astray(0, 0);
        x.heavy(0, 0, 0);
        x.who(0, 0, 0, 0);
        x.who(0, 1, 0, 0);
        x.colds(0);
        x.colds(1);
        x.tears(1, 3, 0);
        x.tears(1, 3, 1);
        x.drawn(60, 7, 0);
        x.image(0);
        x.restore(0);
        x.ask(0, 0);
        x.ask(0, 1);
        x.trace(0);
        x.drop(0);
        x.feed('e');
        x.shop();
        x.undo();
    }

    /** A thousand objects keep well below the room of one run. */
    private static void objects() {
        com.sun.management.ThreadMXBean threads =
            (com.sun.management.ThreadMXBean) ManagementFactory.getThreadMXBean();
        long self = Thread.currentThread().getId();
        new EggsLast();
        long ahead = threads.getThreadAllocatedBytes(self);
        EggsLast x = new EggsLast();
        long made = threads.getThreadAllocatedBytes(self) - ahead;
        DUE.is("it is new", x.count(1), 0);
        DUE.holds("one object takes below 12000 bytes, not " + made, made < 12000);
    }

    private RoomTest() {
    }
}
