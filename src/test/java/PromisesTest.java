/** Answers worked out by hand from the document, promise by promise. */
public final class PromisesTest {
    private static final Due DUE = new Due("promises");
    private static final int NONE = -1000000, BAD = -1000001, STATE = -1000002, FULL = -1000003;
    private static final int NULL = -1000011, PLACE = -1000012, KIND = -1000013, SIZE = -1000014, STORE = -1000015;
    private static final int MIN = Integer.MIN_VALUE, MAX = Integer.MAX_VALUE;

    public static void main(String[] args) {
        p01newObject();
        p02row();
        p03set();
        p04copy();
        p05drop();
        p06feed();
        p07shop();
        p08fault();
        p09undo();
        p09undoOfEach();
        p10beeps();
        p11pack();
        p12layBy();
        p13putIn();
        p14takeOut();
        p15swap();
        p16thing();
        p16crushedStays();
        p17bag();
        p18stand();
        p19least();
        p20torn();
        p21give();
        p22order();
        p23top();
        p24spare();
        p25beside();
        p26even();
        p27astray();
        p28heavy();
        p29who();
        p30colds();
        p31tears();
        p32drawn();
        p33image();
        p34restore();
        p35kind();
        p36as();
        p37ask();
        p38trace();
        p39count();
        p40status();
        DUE.end();
    }

    private static void due(String call, long got, long want) {
        DUE.is(call, got, want);
    }

    /** All THINGS of a text LAID BY. */
    private static EggsLast allLaidBy(String text) {
        EggsLast x = Due.shopOf(text);
        x.beeps(7);
        for (int i = 0; i < 7; i++) {
            x.layBy();
        }
        return x;
    }

    /** Seven THINGS LAID BY, each CRUSHED in a BAG ahead by the next one, and the last by the first. */
    private static EggsLast allCrushed() {
        EggsLast x = allLaidBy("e3,60,1;s1,9;s1,9;s1,9;s1,9;s1,9;s1,9;s1,9;");
        for (int thing = 0; thing < 7; thing++) {
            putAll(x, 0, thing, (thing + 1) % 7);
            x.takeOut(0);
            x.takeOut(0);
        }
        return x;
    }

    private static void putAll(EggsLast x, int bag, int... things) {
        for (int thing : things) {
            x.putIn(thing, bag);
        }
    }

    private static void fill(EggsLast x, int row, int lane, int... values) {
        x.row(row, lane, values.length);
        for (int i = 0; i < values.length; i++) {
            x.set(row, i, values[i]);
        }
    }

    private static void p01newObject() {
        EggsLast x = new EggsLast();
        for (int what = 0; what < 8; what++) {
            due("1 count(" + what + ")", x.count(what), 0);
        }
        due("1 status", x.status(), 0);
        due("1 fault", x.fault(), 0);
        due("1 trace", x.trace(0), NONE);
        due("1 stand", x.stand(0), STATE);
        due("1 undo", x.undo(), STATE);
        due("1 NONE", EggsLast.NONE, NONE);
        due("1 BAD", EggsLast.BAD, BAD);
        due("1 STATE", EggsLast.STATE, STATE);
        due("1 FULL", EggsLast.FULL, FULL);
    }

    private static void p02row() {
        EggsLast x = Due.shopOf("e2,20,3;s2,5;");
        due("2 row none", x.row(0, 0, 0), 0);
        due("2 row most", x.row(7, 2, 40), 40);
        due("2 rows", x.count(0), 2);
        due("2 row 8", x.row(8, 0, 1), BAD);
        due("2 row -1", x.row(-1, 0, 1), BAD);
        due("2 lane -1", x.row(0, -1, 1), BAD);
        due("2 lane 3", x.row(0, 3, 1), BAD);
        due("2 above 40", x.row(0, 0, 41), BAD);
        due("2 far above", x.row(0, 0, MAX), BAD);
        due("2 fewer than none", x.row(0, 0, -1), SIZE);
        due("2 far fewer", x.row(0, 0, MIN), SIZE);
        due("2 BAD ahead of SIZE", x.row(8, 0, -1), BAD);
        due("2 BAD lane ahead of SIZE", x.row(0, 3, -1), BAD);
        x.row(1, 1, 3);
        due("2 found", x.row(1, 0, -1), SIZE);
        due("2 what is found changes nothing", x.drop(1), 3);
        fill(x, 2, 2, 4, 4);
        due("2 not weighed so", x.astray(2, 0), 0);
        due("2 in place of", x.row(2, 2, 3), 3);
        due("2 zeros at first", x.astray(2, 0), 128);
    }

    private static void p03set() {
        EggsLast x = new EggsLast();
        due("3 NULL", x.set(0, 0, 0), NULL);
        x.row(0, 0, 2);
        x.row(1, 1, 2);
        x.row(2, 2, 2);
        due("3 byte", x.set(0, 0, 127), 127);
        due("3 byte 128", x.set(0, 1, 128), -128);
        due("3 byte 200", x.set(0, 1, 200), -56);
        due("3 byte 256", x.set(0, 1, 256), 0);
        due("3 byte -129", x.set(0, 1, -129), 127);
        due("3 short", x.set(1, 0, 32767), 32767);
        due("3 short 40000", x.set(1, 0, 40000), -25536);
        due("3 short 65536", x.set(1, 1, 65536), 0);
        due("3 int", x.set(2, 0, MIN), MIN);
        due("3 int most", x.set(2, 1, MAX), MAX);
        due("3 PLACE behind", x.set(0, 2, 0), PLACE);
        due("3 PLACE ahead", x.set(0, -1, 0), PLACE);
        due("3 PLACE far", x.set(0, MAX, 0), PLACE);
        due("3 BAD", x.set(8, 0, 0), BAD);
        due("3 BAD -1", x.set(-1, 0, 0), BAD);
        x.row(3, 0, 0);
        due("3 PLACE of none", x.set(3, 0, 0), PLACE);
    }

    /** A BAG of 15, of which every THING has another weight, so that astray() tells an ITEM apart. */
    private static EggsLast weights15() {
        EggsLast x = allLaidBy("e1,60,1;t1,0;t2,0;t4,0;t8,0;");
        putAll(x, 0, 0, 1, 2, 3);
        return x;
    }

    private static void p04copy() {
        EggsLast x = weights15();
        due("4 NULL both", x.copy(0, 0, 1, 0, 0), NULL);
        fill(x, 0, 0, 14, 13, 11, 7, 15);
        due("4 NULL b", x.copy(0, 0, 1, 0, 0), NULL);
        due("4 NULL a", x.copy(1, 0, 0, 0, 0), NULL);
        due("4 forwards", x.copy(0, 0, 0, 1, 3), 3);
        due("4 item 0", x.astray(0, 0), 1);
        due("4 item 1", x.astray(0, 1), 1);
        due("4 item 2", x.astray(0, 2), 2);
        due("4 item 3", x.astray(0, 3), 4);
        due("4 item 4", x.astray(0, 4), 128);
        due("4 backwards", x.copy(0, 2, 0, 0, 3), 3);
        due("4 item 0 then", x.astray(0, 0), 2);
        due("4 item 1 then", x.astray(0, 1), 4);
        due("4 item 2 then", x.astray(0, 2), 128);
        x.row(1, 1, 5);
        due("4 STORE", x.copy(0, 0, 1, 0, 1), STORE);
        due("4 STORE ahead of PLACE", x.copy(0, -1, 1, 0, 1), STORE);
        x.row(1, 0, 2);
        due("4 to another", x.copy(0, 2, 1, 1, 1), 1);
        due("4 it came", x.astray(1, 1), 128);
        due("4 it went nowhere", x.astray(0, 2), 128);
        due("4 none at the end", x.copy(0, 5, 1, 2, 0), 0);
        due("4 beyond a", x.copy(0, 4, 1, 0, 2), PLACE);
        due("4 beyond b", x.copy(0, 0, 1, 1, 2), PLACE);
        due("4 i below 0", x.copy(0, -1, 1, 0, 1), PLACE);
        due("4 j below 0", x.copy(0, 0, 1, -1, 1), PLACE);
        due("4 n below 0", x.copy(0, 0, 1, 0, -1), PLACE);
        due("4 i behind", x.copy(0, 6, 1, 0, 0), PLACE);
        due("4 a sum that wraps", x.copy(0, MAX, 1, 0, MAX), PLACE);
        due("4 n that wraps", x.copy(0, 1, 1, 1, MAX), PLACE);
        due("4 BAD a", x.copy(8, 0, 0, 0, 0), BAD);
        due("4 BAD b", x.copy(0, 0, -1, 0, 0), BAD);
        due("4 BAD ahead of NULL", x.copy(5, 0, 8, 0, 0), BAD);
    }

    private static void p05drop() {
        EggsLast x = new EggsLast();
        due("5 NULL", x.drop(0), NULL);
        x.row(0, 2, 17);
        due("5 drop", x.drop(0), 17);
        due("5 rows", x.count(0), 0);
        due("5 again", x.drop(0), NULL);
        due("5 set", x.set(0, 0, 1), NULL);
        x.row(0, 0, 0);
        due("5 none", x.drop(0), 0);
        due("5 BAD", x.drop(8), BAD);
        due("5 BAD -1", x.drop(-1), BAD);
    }

    private static void p06feed() {
        EggsLast x = new EggsLast();
        due("6 least", x.feed(0), 1);
        due("6 most", x.feed(255), 2);
        due("6 BAD -1", x.feed(-1), BAD);
        due("6 BAD 256", x.feed(256), BAD);
        for (int i = 3; i <= 120; i++) {
            due("6 feed", x.feed('t'), i);
        }
        due("6 FULL", x.feed('t'), FULL);
        due("6 BAD ahead of FULL", x.feed(256), BAD);
        due("6 bytes", x.count(7), 120);
        x.shop();
        due("6 bytes then", x.count(7), 0);
    }

    private static void text(String text, int want, int fault) {
        EggsLast x = new EggsLast();
        Due.tell(x, text);
        due("7 shop of " + text, x.shop(), want);
        due("8 fault of " + text, x.fault(), fault);
        due("7 the tape is empty", x.count(7), 0);
    }

    private static void p07shop() {
        String things7 = "t1,0;b1,0;r1,0;s1,0;c1,0;t1,0;t1,0;";
        text("e1,5,1;t1,0;", 1, 0);
        text("e3,60,40;c20,9;", 1, 0);
        text("e03,05,01;t01,00;", 1, 0);
        text("e1,5,1;" + things7, 7, 0);
        text("", -1000100, 1);
        text("e1,5,1;" + things7 + "t1,0;", -1000142, 3);
        text("e1,5,1;" + things7 + "t", -1000142, 3);
        text("e1,5,1;" + things7 + "q1,0;", -1000142, 1);
        text("e1,5,1;" + things7 + "1", -1000142, 1);
        text("e1,5,1;" + things7 + ";", -1000142, 1);
        text("t1,0;", -1000100, 1);
        text("e", -1000101, 1);
        text("e1", -1000102, 1);
        text("e1,", -1000103, 1);
        text("e1;5,1;t1,0;", -1000102, 1);
        text("e4,5,1;t1,0;", -1000101, 2);
        text("e0,5,1;t1,0;", -1000101, 2);
        text("e00,5,1;t1,0;", -1000101, 2);
        text("e001,5,1;t1,0;", -1000101, 1);
        text("e1,123,1;t1,0;", -1000103, 1);
        text("e1,1234,1;t1,0;", -1000103, 1);
        text("e99", -1000101, 2);
        text("e1,4,1;t1,0;", -1000103, 2);
        text("e1,61,1;t1,0;", -1000103, 2);
        text("e1,5,0;t1,0;", -1000105, 2);
        text("e1,5,41;t1,0;", -1000105, 2);
        text("e1,5,1;", -1000107, 1);
        text("e1,5,1;t0,0;", -1000108, 2);
        text("e1,5,1;t21,0;", -1000108, 2);
        text("e1,5,1;t20,9;", 1, 0);
        text("e1,5,1;t1,10;", -1000110, 2);
        text("e1,5,1;t1,0", -1000111, 1);
        text("e1,5,1;t1,0;t", -1000113, 1);
        text("e1,5,1;t1,0;e", -1000112, 1);
        text("e1,5,1;T1,0;", -1000107, 1);
        text("e1,5,1; t1,0;", -1000107, 1);
        text("e1,5,1;t1 ,0;", -1000109, 1);
        text("e 1,5,1;t1,0;", -1000101, 1);
        text("e-1,5,1;t1,0;", -1000101, 1);
        text("e1,5,1;tt1,0;", -1000108, 1);
        text("e1,5,1;t1,0;\u0000", -1000112, 1);
        text("e1,5,1;t1,0;\u00ff", -1000112, 1);
        text("E1,5,1;t1,0;", -1000100, 1);

        EggsLast x = Due.shopOf("e2,20,3;s2,5;t9,0;");
        x.beeps(1);
        x.pack(1);
        x.image(1);
        x.beeps(1);
        Due.tell(x, "e1,5,1;t0,0;");
        due("7 a FAULT", x.shop(), -1000108);
        due("7 all stays: BAGS", x.count(2), 2);
        due("7 all stays: where", x.thing(0, 2), 4);
        due("7 all stays: BEEP", x.count(3), 2);
        due("7 all stays: undo", x.undo(), 2);
        Due.tell(x, "e1,5,1;c4,2;");
        due("7 another", x.shop(), 1);
        due("7 in place of it: BAGS", x.count(2), 1);
        due("7 in place of it: BEEP", x.count(3), 0);
        due("7 in place of it: ACTS", x.count(6), 0);
        due("7 in place of it: undo", x.undo(), STATE);
        due("7 in place of it: BELT", x.stand(0), 1);
        due("7 in place of it: kind", x.kind(0), 5);
        due("7 in place of it: weight", x.count(5), 0);
        due("7 an IMAGE outlives it", x.restore(1), 1);
        due("7 as it was", x.thing(0, 2), 4);
    }

    private static void p08fault() {
        EggsLast x = new EggsLast();
        due("8 before one", x.fault(), 0);
        Due.tell(x, "e9");
        x.shop();
        due("8 the latest", x.fault(), 2);
        Due.tell(x, "e1,5,1;t1,0;");
        due("8 no FAULT", x.shop(), 1);
        due("8 the latest yet", x.fault(), 2);
        x.shop();
        due("8 a later one", x.fault(), 1);
    }

    private static void p09undo() {
        EggsLast x = Due.shopOf("e2,20,3;s2,5;t9,0;");
        due("9 none", x.undo(), STATE);
        x.beeps(24);
        due("9 24 are kept", x.count(6), 24);
        x.beeps(6);
        due("9 no more than 24", x.count(6), 24);
        for (int left = 23; left >= 0; left--) {
            due("9 undo", x.undo(), left);
        }
        due("9 the oldest are forgotten", x.undo(), STATE);
        due("9 BEEP", x.count(3), 6);
        due("9 a BEEP of the empty BELT changes nothing else", x.stand(1), 3);
        x.beeps(3);
        x.undo();
        due("9 a refused call is no ACT", x.pack(2), BAD);
        due("9 still two", x.count(6), 2);
    }

    private static void p09undoOfEach() {
        EggsLast x = Due.shopOf("e2,20,3;s2,5;t9,0;c4,2;");
        x.swap();
        due("9 swapped", x.stand(5), 1);
        x.undo();
        due("9 swapped back", x.stand(5), 0);
        x.beeps(3);
        x.undo();
        due("9 BEEP back: BELT", x.stand(0), 4);
        due("9 BEEP back: HEAP", x.stand(6), 1);
        due("9 BEEP back: BEEP", x.count(3), 2);
        x.layBy();
        x.undo();
        due("9 LAID BY back", x.stand(6), 1);
        x.layBy();
        x.pack(0);
        x.undo();
        due("9 packed back", x.stand(6), 0);
        x.pack(0);
        due("9 crushing", x.putIn(1, 0), 9);
        due("9 crushed", x.stand(3), 1);
        x.undo();
        due("9 not crushed", x.stand(3), 0);
        due("9 LAID BY again", x.thing(1, 2), 2);
        x.putIn(1, 0);
        x.takeOut(0);
        due("9 taken out, crushed yet", x.stand(3), 1);
        x.undo();
        due("9 in the BAG again", x.bag(0, 2), 1);
        due("9 LOAD again", x.thing(0, 3), 9);
        due("9 crushed again", x.stand(3), 1);
        x.undo();
        due("9 it was not yet", x.stand(3), 0);
        while (x.undo() >= 0) {
            due("9 BAD is no ACT", x.beeps(0), BAD);
        }
        due("9 all undone", x.stand(0), 7);
        due("9 first", x.stand(5), 0);
    }

    private static void p10beeps() {
        EggsLast x = new EggsLast();
        due("10 STATE", x.beeps(1), STATE);
        due("10 STATE ahead of BAD", x.beeps(0), STATE);
        x = Due.shopOf("e2,20,3;s2,5;t9,0;c4,2;");
        due("10 one", x.beeps(1), 2);
        due("10 HEAP", x.stand(1), 1);
        due("10 two", x.beeps(2), 0);
        due("10 HEAP then", x.stand(6), 2);
        due("10 of none", x.beeps(24), 0);
        due("10 BEEP", x.count(3), 27);
        due("10 BAD 0", x.beeps(0), BAD);
        due("10 BAD 25", x.beeps(25), BAD);
        for (int i = 0; i < 40; i++) {
            x.beeps(24);
        }
        due("10 BEEP then", x.count(3), 987);
        due("10 FULL", x.beeps(13), FULL);
        due("10 FULL changes nothing", x.count(3), 987);
        due("10 just 999", x.beeps(12), 0);
        due("10 999", x.count(3), 999);
        due("10 FULL by one", x.beeps(1), FULL);
        due("10 BAD ahead of FULL", x.beeps(25), BAD);
        x.undo();
        due("10 room again", x.beeps(1), 0);
    }

    private static void p11pack() {
        EggsLast x = new EggsLast();
        due("11 STATE ahead of BAD", x.pack(9), STATE);
        x = Due.shopOf("e2,20,3;s2,5;t9,0;");
        due("11 an empty HEAP", x.pack(0), STATE);
        due("11 BAD ahead of an empty HEAP", x.pack(2), BAD);
        x.beeps(2);
        due("11 BAD -1", x.pack(-1), BAD);
        due("11 the top", x.pack(1), 1);
        due("11 the next", x.pack(1), 0);
        due("11 above", x.bag(1, 2), 0);
        due("11 LOAD", x.thing(1, 3), 1);
        due("11 none left", x.pack(1), STATE);
    }

    private static void p12layBy() {
        EggsLast x = new EggsLast();
        due("12 STATE", x.layBy(), STATE);
        x = Due.shopOf("e2,20,3;s2,5;t9,0;");
        due("12 an empty HEAP", x.layBy(), STATE);
        x.beeps(2);
        due("12 the top", x.layBy(), 1);
        due("12 LAID BY", x.stand(2), 2);
        due("12 the next", x.layBy(), 0);
        due("12 both", x.stand(2), 3);
        due("12 none left", x.layBy(), STATE);
    }

    private static void p13putIn() {
        EggsLast x = new EggsLast();
        due("13 no SHOP", x.putIn(0, 0), BAD);
        x = allLaidBy("e2,20,3;t9,0;b5,0;r7,0;");
        due("13 BAD thing", x.putIn(3, 0), BAD);
        due("13 BAD -1", x.putIn(-1, 0), BAD);
        due("13 BAD bag", x.putIn(0, 2), BAD);
        due("13 none below", x.putIn(0, 0), 0);
        due("13 LOAD on it", x.putIn(1, 0), 7);
        due("13 LOAD on the next", x.putIn(2, 0), 3);
        due("13 LOAD on the lowest", x.thing(0, 3), 10);
        due("13 not LAID BY", x.putIn(2, 1), STATE);
        x = Due.shopOf("e2,20,3;t9,0;b5,0;");
        due("13 on the BELT", x.putIn(0, 0), STATE);
        x.beeps(1);
        due("13 on the HEAP", x.putIn(0, 0), STATE);
        due("13 BAD ahead of STATE", x.putIn(0, 2), BAD);
    }

    private static void p14takeOut() {
        EggsLast x = new EggsLast();
        due("14 STATE ahead of BAD", x.takeOut(9), STATE);
        x = allLaidBy("e2,20,3;t9,0;b5,0;");
        due("14 it is empty", x.takeOut(0), STATE);
        due("14 BAD", x.takeOut(2), BAD);
        putAll(x, 0, 1, 0);
        due("14 the top", x.takeOut(0), 0);
        due("14 LAID BY", x.stand(2), 1);
        due("14 no LOAD", x.thing(1, 3), 0);
        due("14 the next", x.takeOut(0), 1);
        due("14 empty again", x.takeOut(0), STATE);
    }

    private static void p15swap() {
        EggsLast x = new EggsLast();
        due("15 STATE", x.swap(), STATE);
        x = Due.shopOf("e2,20,3;t9,0;b5,0;r7,0;");
        due("15 swapped", x.swap(), 1);
        due("15 the next comes", x.beeps(1), 2);
        due("15 it came", x.stand(6), 1);
        due("15 swapped again", x.swap(), 2);
        x.beeps(1);
        due("15 one only", x.swap(), STATE);
        due("15 which", x.stand(5), 0);
    }

    private static void p16thing() {
        EggsLast x = new EggsLast();
        due("16 no SHOP", x.thing(0, 0), BAD);
        x = allLaidBy("e2,20,3;t9,7;b12,0;r7,0;s3,4;c4,2;");
        int[][] want = {
            {9, 7, 2, 0, 9, 60, 0}, {12, 0, 2, 0, 14, 20, 0}, {7, 0, 2, 0, 3, 9, 0},
            {3, 4, 2, 0, 1, 5, 0}, {4, 2, 2, 0, 2, 3, 0},
        };
        for (int thing = 0; thing < want.length; thing++) {
            for (int what = 0; what < 7; what++) {
                due("16 thing(" + thing + ", " + what + ")", x.thing(thing, what), want[thing][what]);
            }
        }
        due("16 BAD 5", x.thing(5, 0), BAD);
        due("16 BAD -1", x.thing(-1, 0), BAD);
        due("16 BAD what 8", x.thing(0, 8), BAD);
        due("16 BAD what -1", x.thing(0, -1), BAD);
        x.putIn(1, 1);
        due("16 where: BAG 1", x.thing(1, 2), 4);
        x = Due.shopOf("e1,20,3;c4,9;t1,0;s1,9;");
        due("16 a cold one bears none", x.thing(0, 5), 0);
        due("16 a soft one bears none", x.thing(2, 5), 0);
        due("16 on the BELT", x.thing(0, 2), 0);
        due("16 not WARM on the BELT", x.thing(0, 7), 0);
        x.beeps(1);
        due("16 on the HEAP", x.thing(0, 2), 1);
        due("16 WARM: one BEEP", x.thing(0, 7), 0);
        x.beeps(1);
        due("16 WARM: two BEEPS", x.thing(0, 7), 0);
        x.beeps(1);
        due("16 WARM: three BEEPS", x.thing(0, 7), 1);
        due("16 a tin is not", x.thing(1, 7), 0);
        x.undo();
        due("16 not WARM any more", x.thing(0, 7), 0);
    }

    private static void p16crushedStays() {
        EggsLast x = allLaidBy("e2,20,3;s2,5;r9,0;s1,0;");
        putAll(x, 0, 0, 1);
        due("16 LOAD as much as it BEARS", x.thing(0, 3), 4);
        due("16 not CRUSHED by that", x.thing(0, 6), 0);
        x.putIn(2, 0);
        due("16 LOAD one more", x.thing(0, 3), 5);
        due("16 CRUSHED", x.thing(0, 6), 1);
        x.takeOut(0);
        x.takeOut(0);
        due("16 no LOAD", x.thing(0, 3), 0);
        due("16 CRUSHED yet", x.thing(0, 6), 1);
        x.takeOut(0);
        due("16 CRUSHED, LAID BY", x.stand(3), 1);
        x = allLaidBy("e2,20,3;s2,8;s2,8;t9,0;");
        putAll(x, 0, 0, 1, 2);
        due("16 two CRUSHED at once", x.stand(3), 3);
    }

    private static void p17bag() {
        EggsLast x = new EggsLast();
        due("17 no SHOP", x.bag(0, 0), BAD);
        x = allLaidBy("e2,10,3;t9,0;b1,0;s1,0;");
        due("17 empty", x.bag(0, 0), 0);
        due("17 empty: bits", x.bag(0, 1), 0);
        due("17 empty: top", x.bag(0, 2), NONE);
        due("17 empty: TEARS", x.bag(0, 3), 0);
        putAll(x, 0, 0, 1);
        due("17 weighs", x.bag(0, 0), 10);
        due("17 just what it HOLDS", x.bag(0, 3), 0);
        x.putIn(2, 0);
        due("17 bits", x.bag(0, 1), 7);
        due("17 top", x.bag(0, 2), 2);
        due("17 TEARS", x.bag(0, 3), 1);
        due("17 the other", x.bag(1, 0), 0);
        due("17 BAD 2", x.bag(2, 0), BAD);
        due("17 BAD -1", x.bag(-1, 0), BAD);
        due("17 BAD what 4", x.bag(0, 4), BAD);
        due("17 BAD what -1", x.bag(0, -1), BAD);
    }

    private static void p18stand() {
        EggsLast x = new EggsLast();
        due("18 STATE ahead of BAD", x.stand(9), STATE);
        x = Due.shopOf("e1,20,2;c4,9;t9,0;s1,5;c1,0;");
        x.beeps(2);
        x.layBy();
        x.pack(0);
        x.putIn(1, 0);
        x.beeps(1);
        due("18 BELT", x.stand(0), 8);
        due("18 HEAP", x.stand(1), 4);
        due("18 LAID BY", x.stand(2), 0);
        due("18 CRUSHED", x.stand(3), 1);
        due("18 WARM", x.stand(4), 1);
        due("18 first", x.stand(5), 3);
        due("18 top", x.stand(6), 2);
        x.layBy();
        due("18 LAID BY then", x.stand(2), 4);
        due("18 no top", x.stand(6), NONE);
        x.beeps(1);
        due("18 no first", x.stand(5), NONE);
        due("18 not yet WARM", x.stand(4), 1);
        x.beeps(1);
        due("18 WARM then", x.stand(4), 9);
        due("18 BAD", x.stand(7), BAD);
        due("18 BAD -1", x.stand(-1), BAD);
    }

    private static void p19least() {
        EggsLast x = new EggsLast();
        due("19 STATE ahead of BAD", x.least(-3), STATE);
        x = Due.shopOf("e2,60,1;s2,5;t9,0;");
        due("19 how many", x.least(-1), 0);
        due("19 how much", x.least(-2), 9);
        due("19 the first WAY: 0", x.least(0), 0);
        due("19 the first WAY: 1", x.least(1), 1);
        due("19 BAD thing", x.least(2), BAD);
        due("19 BAD -3", x.least(-3), BAD);
        due("19 nothing changes", x.stand(0), 3);
        x.beeps(2);
        due("19 from the top of the HEAP: 1", x.least(1), 0);
        due("19 from the top of the HEAP: 0", x.least(0), 1);
        x.pack(1);
        due("19 packed already", x.least(1), NONE);
        due("19 the other", x.least(0), 0);
        x = Due.shopOf("e1,60,1;s2,5;t9,0;");
        due("19 one BAG", x.least(-1), 1);
        due("19 one BAG weighs", x.least(-2), 11);
        x.beeps(2);
        due("19 the HEAP from its top on", x.least(-1), 0);
        x.layBy();
        due("19 LAID BY behind the HEAP", x.least(-1), 1);
        x.layBy();
        due("19 LAID BY by numbers", x.least(-1), 1);
        x = Due.shopOf("e1,60,1;t9,0;s2,5;");
        x.beeps(1);
        x.layBy();
        due("19 LAID BY ahead of the BELT", x.least(-1), 0);
        x = Due.shopOf("e1,60,1;s2,5;t9,0;");
        x.swap();
        due("19 the BELT in its order", x.least(-1), 0);
        x = Due.shopOf("e2,60,1;s2,5;t9,0;t8,0;t7,0;");
        due("19 fewest ahead of lightest", x.least(-1), 0);
        due("19 so much", x.least(-2), 24);
        x = allLaidBy("e2,60,1;s2,5;t9,0;s1,9;s1,9;");
        putAll(x, 0, 0, 1);
        due("19 those that are CRUSHED now, too", x.least(-1), 1);
        due("19 with what is in the BAGS", x.least(-2), 12);
        x = allLaidBy("e2,60,1;s2,5;r4,0;r6,0;t20,0;");
        putAll(x, 0, 0, 1);
        putAll(x, 1, 3);
        due("19 what is in a BAG is not crushed", x.least(-1), 0);
        due("19 but it weighs more", x.least(-2), 26);
        due("19 in the other BAG", x.least(2), 1);
        x = allLaidBy("e2,60,1;s2,5;r4,0;r4,0;t20,0;");
        putAll(x, 0, 0, 1);
        putAll(x, 1, 3);
        due("19 as much as it BEARS", x.least(-2), 20);
        due("19 in this BAG", x.least(2), 0);
        x = allLaidBy("e2,60,1;s2,5;t9,0;");
        putAll(x, 1, 1, 0);
        due("19 nothing to pack: how many", x.least(-1), 0);
        due("19 nothing to pack: how much", x.least(-2), 11);
        due("19 nothing to pack: BAG", x.least(0), NONE);
        x = allCrushed();
        due("19 all are CRUSHED: how many", x.least(-1), 7);
        due("19 all are CRUSHED: how much", x.least(-2), 3);
        due("19 all are CRUSHED: the first WAY", x.least(6), 2);
    }

    private static void p20torn() {
        due("20 STATE", new EggsLast().torn(), STATE);
        due("20 none", Due.shopOf("e2,5,1;t5,0;t3,0;t2,0;").torn(), 0);
        due("20 one", Due.shopOf("e2,5,1;t5,0;t5,0;t5,0;").torn(), 1);
        due("20 too heavy", Due.shopOf("e1,5,1;t6,0;").torn(), 1);
        due("20 all in one", Due.shopOf("e3,5,1;t6,0;t6,0;t6,0;t6,0;").torn(), 1);
        EggsLast x = allLaidBy("e3,5,1;t6,0;t6,0;t6,0;t6,0;t5,0;");
        putAll(x, 0, 0);
        putAll(x, 1, 1);
        due("20 torn already", x.torn(), 2);
        putAll(x, 2, 2);
        due("20 all torn", x.torn(), 3);
    }

    private static void p21give() {
        EggsLast x = new EggsLast();
        due("21 STATE ahead of BAD", x.give(2), STATE);
        x = Due.shopOf("e1,60,1;s2,5;t1,0;t9,0;");
        due("21 which", x.give(0), 0);
        due("21 how many", x.give(1), 0);
        x = Due.shopOf("e1,60,1;s2,9;s2,7;s2,7;t9,0;");
        due("21 the one by which it is better", x.give(0), 3);
        due("21 so many yet", x.give(1), 1);
        due("21 BAD 2", x.give(2), BAD);
        due("21 BAD -1", x.give(-1), BAD);
        x = Due.shopOf("e1,60,1;s2,5;t9,0;");
        x.beeps(2);
        due("21 of several the least number, not the top of the HEAP", x.give(0), 0);
        x.layBy();
        due("21 of several the least number, LAID BY is packed later", x.give(0), 0);
        x = Due.shopOf("e3,6,1;c2,0;c2,0;");
        x.beeps(2);
        due("21 nothing is CRUSHED without either", x.give(1), 0);
        due("21 of two on the HEAP", x.give(0), 0);
        x = Due.shopOf("e1,60,1;t9,0;s2,5;");
        x.swap();
        due("21 of several on a swapped BELT", x.give(0), 0);
        x = Due.shopOf("e1,60,1;s2,5;t9,0;t9,0;");
        x.beeps(1);
        x.layBy();
        x.beeps(2);
        due("21 of several on the HEAP and LAID BY", x.give(0), 0);
        x = Due.shopOf("e1,60,1;s2,9;t1,0;t9,0;t9,0;");
        x.beeps(4);
        x.pack(0);
        x.pack(0);
        due("21 of several the least number of those that are packed", x.give(0), 0);
        x = Due.shopOf("e1,60,1;t9,0;t9,0;t9,0;t9,0;");
        x.beeps(1);
        x.pack(0);
        x.beeps(3);
        due("21 none that is in a BAG", x.give(0), 1);
        x = allLaidBy("e1,60,1;s2,5;t9,0;");
        putAll(x, 0, 0, 1);
        due("21 nothing to pack", x.give(0), NONE);
        due("21 nothing to pack: how many", x.give(1), NONE);
        due("21 nothing to pack: BAD", x.give(2), BAD);
        x = allCrushed();
        due("21 all are CRUSHED: which", x.give(0), 0);
        due("21 all are CRUSHED: how many are so", x.give(1), 7);
    }

    private static void p22order() {
        EggsLast x = new EggsLast();
        due("22 STATE ahead of BAD", x.order(9, -2), STATE);
        x = Due.shopOf("e1,60,1;s2,5;t9,0;");
        due("22 how many", x.order(0, -1), 0);
        due("22 0", x.order(0, 0), 1);
        due("22 1", x.order(0, 1), 0);
        due("22 not so many", x.order(0, 2), NONE);
        due("22 far from so many", x.order(0, MAX), NONE);
        due("22 BAD k", x.order(0, -2), BAD);
        due("22 BAD bag", x.order(1, 0), BAD);
        due("22 BAD -1", x.order(-1, 0), BAD);
        x = Due.shopOf("e2,60,1;s2,5;t9,0;s1,0;");
        x.beeps(1);
        x.pack(0);
        x.swap();
        due("22 what is in the BAG is crushed", x.order(0, -1), 1);
        due("22 not in the other", x.order(1, -1), 0);
        due("22 the first by numbers", x.order(1, 0), 1);
        due("22 then", x.order(1, 1), 2);
        due("22 nothing changes", x.stand(5), 2);
        x.beeps(2);
        due("22 an empty BELT", x.order(0, -1), 0);
        due("22 none there", x.order(0, 0), NONE);
        x = allLaidBy("e2,60,1;s2,5;t9,0;");
        putAll(x, 0, 0, 1);
        due("22 those CRUSHED now, in another BAG", x.order(1, -1), 1);
        x = Due.shopOf("e2,60,1;s2,8;s2,8;t9,0;s1,9;s1,9;");
        x.beeps(2);
        x.layBy();
        x.layBy();
        putAll(x, 1, 0, 1);
        due("22 two in the BAG, one of the BELT", x.order(1, -1), 3);
        due("22 one of the BELT", x.order(0, -1), 1);
        due("22 the tin first", x.order(1, 0), 2);
        due("22 then 3", x.order(1, 1), 3);
        due("22 then 4", x.order(1, 2), 4);
        x = Due.shopOf("e1,60,1;s1,9;s1,9;");
        due("22 one whatever the order", x.order(0, -1), 1);
        due("22 the first of two as good", x.order(0, 0), 0);
        x = Due.shopOf("e2,60,1;s2,5;r8,0;");
        due("22 as much as it BEARS", x.order(1, 0), 0);
        x.beeps(1);
        x.pack(1);
        due("22 as much as it BEARS in the BAG", x.order(1, -1), 0);
    }

    private static void p23top() {
        due("23 no SHOP", new EggsLast().top(0), BAD);
        EggsLast x = Due.shopOf("e2,60,1;s2,5;r8,0;r10,0;c9,0;b2,0;");
        due("23 on an empty BAG", x.top(0), 31);
        x.beeps(1);
        x.pack(0);
        x.beeps(2);
        x.layBy();
        due("23 as much as it BEARS yet", x.top(0), 2 + 8 + 16);
        due("23 on the other", x.top(1), 30);
        x.putIn(2, 0);
        due("23 what is CRUSHED is not crushed", x.thing(0, 6), 1);
        due("23 only the upper one counts", x.top(0), 2 + 8 + 16);
        due("23 BAD", x.top(2), BAD);
        x = allLaidBy("e2,60,1;s2,5;r4,0;r6,0;s1,0;");
        putAll(x, 1, 0, 1);
        due("23 LOAD is borne already", x.top(1), 8);
        due("23 BAD -1", x.top(-1), BAD);
    }

    private static void p24spare() {
        due("24 no SHOP", new EggsLast().spare(0), BAD);
        EggsLast x = allLaidBy("e2,60,1;s2,5;r9,0;s1,0;");
        due("24 in no BAG", x.spare(0), STATE);
        x.putIn(0, 0);
        due("24 all that it BEARS", x.spare(0), 4);
        x.putIn(1, 0);
        due("24 none", x.spare(0), 0);
        due("24 of the upper one", x.spare(1), 9);
        x.putIn(2, 0);
        due("24 CRUSHED", x.spare(0), 0);
        x.takeOut(0);
        x.takeOut(0);
        due("24 CRUSHED, with no LOAD", x.spare(0), 0);
        due("24 BAD", x.spare(3), BAD);
        due("24 BAD -1", x.spare(-1), BAD);
    }

    private static void p25beside() {
        due("25 no SHOP", new EggsLast().beside(0, 0), BAD);
        EggsLast x = allLaidBy("e2,60,1;s2,5;r9,0;s1,0;t1,0;");
        due("25 in no BAG", x.beside(0, 1), 0);
        putAll(x, 0, 2, 0, 1);
        putAll(x, 1, 3);
        due("25 above", x.beside(0, 1), 2);
        due("25 below", x.beside(0, 0), 4);
        due("25 above the lowest", x.beside(2, 1), 3);
        due("25 below the lowest", x.beside(2, 0), 0);
        due("25 alone", x.beside(3, 0), 0);
        due("25 BAD", x.beside(4, 0), BAD);
        due("25 BAD up 2", x.beside(0, 2), BAD);
        due("25 BAD up -1", x.beside(0, -1), BAD);
        x = Due.shopOf("e2,60,1;s2,5;r9,0;");
        due("25 on the BELT", x.beside(0, 0), 0);
        x.beeps(2);
        due("25 on the HEAP", x.beside(0, 1), 0);
    }

    private static void p26even() {
        due("26 STATE", new EggsLast().even(), STATE);
        EggsLast x = allLaidBy("e3,60,1;t5,0;t7,0;t1,0;");
        due("26 all empty", x.even(), 0);
        putAll(x, 0, 0);
        putAll(x, 1, 1);
        due("26 one empty", x.even(), 7);
        putAll(x, 2, 2);
        due("26 none empty", x.even(), 6);
        x = allLaidBy("e1,60,1;t5,0;");
        putAll(x, 0, 0);
        due("26 one BAG", x.even(), 0);
    }

    private static void p27astray() {
        EggsLast x = new EggsLast();
        due("27 STATE ahead of BAD", x.astray(8, 0), STATE);
        due("27 STATE ahead of NULL", x.astray(0, 0), STATE);
        x = allLaidBy("e2,60,1;t5,0;t7,0;t5,0;t3,0;");
        putAll(x, 0, 0, 1, 2);
        putAll(x, 1, 3);
        due("27 BAD", x.astray(8, 0), BAD);
        due("27 BAD -1", x.astray(-1, 0), BAD);
        due("27 NULL", x.astray(0, 0), NULL);
        fill(x, 0, 0, 99, 17, 3, 12);
        due("27 as it is", x.astray(0, 1), 128);
        due("27 from i on", x.astray(0, 0), 0);
        due("27 PLACE", x.astray(0, 3), PLACE);
        due("27 PLACE -1", x.astray(0, -1), PLACE);
        due("27 PLACE far", x.astray(0, MAX), PLACE);
        fill(x, 0, 2, 12, 3);
        due("27 one of two", x.astray(0, 0), 5);
        fill(x, 0, 1, 17, 0);
        due("27 in the other BAG", x.astray(0, 0), 8);
        fill(x, 0, 1, 12, 0);
        due("27 not two", x.astray(0, 0), 0);
        x.takeOut(0);
        due("27 only what is in BAGS", x.astray(0, 0), 8);
    }

    private static void p28heavy() {
        due("28 no SHOP", new EggsLast().heavy(0, 0, 0), BAD);
        EggsLast x = allLaidBy("e2,60,1;t5,0;t7,0;t5,0;t3,0;");
        putAll(x, 0, 0, 1);
        putAll(x, 1, 3);
        due("28 BAD thing", x.heavy(4, 0, 0), BAD);
        due("28 BAD -1", x.heavy(-1, 0, 0), BAD);
        due("28 BAD row", x.heavy(0, 8, 0), BAD);
        due("28 NULL", x.heavy(0, 0, 0), NULL);
        fill(x, 0, 0, 27, 3, 12, 3);
        due("28 so heavy", x.heavy(0, 0, 0), 1 << 20);
        due("28 heavier than 20", x.heavy(3, 0, 0), 0);
        due("28 20 by the other", x.heavy(1, 0, 0), 0);
        due("28 as it is", x.heavy(0, 0, 2), 1 << 5);
        due("28 in no BAG: any", x.heavy(2, 0, 2), (1 << 21) - 2);
        due("28 in no BAG: none", x.heavy(2, 0, 0), 0);
        due("28 PLACE", x.heavy(0, 0, 3), PLACE);
        due("28 PLACE -1", x.heavy(0, 0, -1), PLACE);
        fill(x, 0, 0, 7, 3);
        due("28 not 0", x.heavy(0, 0, 0), 0);
        fill(x, 0, 0, 8, 3);
        due("28 just 1", x.heavy(0, 0, 0), 2);
        due("28 nothing changes", x.thing(0, 0), 5);
    }

    private static void p29who() {
        due("29 no SHOP", new EggsLast().who(0, 0, 0, 0), BAD);
        EggsLast x = allLaidBy("e1,60,1;s2,5;t9,0;");
        putAll(x, 0, 0, 1);
        due("29 BAD thing", x.who(2, 0, 0, 0), BAD);
        due("29 BAD which", x.who(0, 2, 0, 0), BAD);
        due("29 BAD which -1", x.who(0, -1, 0, 0), BAD);
        due("29 BAD row", x.who(0, 0, 8, 0), BAD);
        due("29 NULL", x.who(0, 0, 0, 0), NULL);
        fill(x, 0, 0, 0, 1, 0, 0, 0);
        due("29 SOFTS", x.who(0, 0, 0, 1), 1022);
        due("29 KINDS by what it BEARS", x.who(0, 1, 0, 1), 48);
        due("29 KINDS by how it PRESSES", x.who(1, 1, 0, 1), 6);
        due("29 SOFTS of a tin", x.who(1, 0, 0, 1), 1023);
        due("29 not so broken: SOFTS", x.who(0, 0, 0, 2), 1);
        due("29 not so broken: KINDS", x.who(1, 1, 0, 2), 56);
        due("29 that cannot be", x.who(1, 1, 0, 0), 0);
        due("29 PLACE", x.who(0, 0, 0, 4), PLACE);
        due("29 PLACE -1", x.who(0, 0, 0, -1), PLACE);
        x.set(0, 1, 2);
        due("29 neither 1 nor 0", x.who(0, 0, 0, 1), 0);
        x.set(0, 1, 0);
        x.takeOut(0);
        due("29 LOAD, not CRUSHED, counts", x.who(0, 0, 0, 0), 1023);
        due("29 nothing changes", x.thing(0, 1), 5);
        due("29 nothing changes: kind", x.kind(1), 1);
    }

    private static void p30colds() {
        due("30 STATE ahead of BAD", new EggsLast().colds(2), STATE);
        EggsLast x = allLaidBy("e2,60,1;s2,5;c1,0;c1,0;c1,0;c1,0;c1,0;");
        due("30 none", x.colds(0), 0);
        due("30 no first", x.colds(1), NONE);
        putAll(x, 0, 5, 4, 0);
        due("30 one", x.colds(0), 1);
        due("30 which", x.colds(1), 45);
        putAll(x, 1, 3, 2, 1);
        due("30 four", x.colds(0), 4);
        due("30 the first by numbers", x.colds(1), 12);
        due("30 BAD 2", x.colds(2), BAD);
        x = allLaidBy("e2,60,1;c1,0;s1,0;c1,0;");
        putAll(x, 1, 0, 2);
        due("30 one with THING 0", x.colds(0), 1);
        due("30 which with THING 0", x.colds(1), 2);
        due("30 BAD -1", x.colds(-1), BAD);
    }

    private static void fraction(EggsLast x, int k, int p, int above, int below) {
        due("31 tears(" + k + ", " + p + ", 0)", x.tears(k, p, 0), above);
        due("31 tears(" + k + ", " + p + ", 1)", x.tears(k, p, 1), below);
    }

    private static void p31tears() {
        due("31 STATE ahead of BAD", new EggsLast().tears(8, 11, 2), STATE);
        EggsLast x = allLaidBy("e2,10,1;t4,0;t5,0;t6,0;t7,0;");
        fraction(x, 0, 5, 1, 1);
        fraction(x, 1, 5, 0, 1);
        putAll(x, 0, 0, 1);
        fraction(x, 1, 4, 3, 5);
        putAll(x, 1, 2);
        fraction(x, 0, 3, 1, 1);
        fraction(x, 1, 3, 91, 100);
        fraction(x, 2, 3, 7, 10);
        fraction(x, 3, 3, 49, 100);
        fraction(x, 4, 3, 0, 1);
        fraction(x, 1, 5, 3, 4);
        fraction(x, 3, 0, 1, 1);
        fraction(x, 1, 10, 0, 1);
        fraction(x, 0, 10, 1, 1);
        putAll(x, 1, 3);
        fraction(x, 3, 0, 0, 1);
        fraction(x, 2, 3, 7, 10);
        due("31 BAD k 8", x.tears(8, 0, 0), BAD);
        due("31 BAD k -1", x.tears(-1, 0, 0), BAD);
        due("31 BAD p 11", x.tears(0, 11, 0), BAD);
        due("31 BAD p -1", x.tears(0, -1, 0), BAD);
        due("31 BAD what 2", x.tears(0, 0, 2), BAD);
        due("31 BAD what -1", x.tears(0, 0, -1), BAD);
        x = allLaidBy("e3,60,1;s2,5;t9,0;t1,0;");
        putAll(x, 0, 0, 1);
        fraction(x, 2, 0, 0, 1);
        fraction(x, 1, 1, 9, 10);
        putAll(x, 1, 2);
        fraction(x, 2, 1, 81, 100);
    }

    private static void p32drawn() {
        due("32 STATE ahead of BAD", new EggsLast().drawn(61, 0, 2), STATE);
        EggsLast x = Due.shopOf("e2,60,1;s2,5;t9,0;");
        due("32 no BEEPS", x.drawn(0, 1, 1), 0);
        due("32 one BEEP", x.drawn(1, 1, 1), 2);
        due("32 two BEEPS", x.drawn(2, 1, 1), 11);
        due("32 one is CRUSHED", x.drawn(2, 1, 0), 1);
        due("32 X by 3 leaves 0", x.drawn(2, 3, 1), 0);
        due("32 then it does not", x.drawn(3, 3, 1), 9);
        due("32 more BEEPS than THINGS", x.drawn(60, 1, 1), 11);
        due("32 nothing changes", x.stand(0), 3);
        due("32 no ACT", x.count(6), 0);
        due("32 BAD n 61", x.drawn(61, 1, 0), BAD);
        due("32 BAD n -1", x.drawn(-1, 1, 0), BAD);
        due("32 BAD seed 0", x.drawn(1, 0, 0), BAD);
        due("32 BAD seed", x.drawn(1, 1000000, 0), BAD);
        due("32 most seed", x.drawn(0, 999999, 0), 0);
        due("32 BAD what", x.drawn(1, 1, 2), BAD);
        due("32 BAD what -1", x.drawn(1, 1, -1), BAD);
        for (int i = 0; i < 41; i++) {
            x.beeps(24);
        }
        due("32 no FULL", x.drawn(60, 1, 0) >= 0 ? 1 : 0, 1);
    }

    private static void p33image() {
        EggsLast x = new EggsLast();
        due("33 BAD ahead of STATE", x.image(2), BAD);
        due("33 BAD -1", x.image(-1), BAD);
        due("33 STATE", x.image(0), STATE);
        x = Due.shopOf("e2,60,1;s2,5;t9,0;");
        x.beeps(1);
        due("33 kept", x.image(0), 1);
        due("33 ACTS stay", x.count(6), 1);
        x.beeps(1);
        due("33 the other", x.image(1), 1);
        x.restore(0);
        due("33 the first is not the other", x.count(3), 1);
        x.restore(1);
        due("33 the other is not the first", x.count(3), 2);
        x.pack(0);
        x.image(1);
        x.takeOut(0);
        x.restore(1);
        due("33 a later one in place of it", x.bag(0, 0), 9);
    }

    private static void p34restore() {
        EggsLast x = new EggsLast();
        due("34 BAD ahead of STATE", x.restore(2), BAD);
        due("34 BAD -1", x.restore(-1), BAD);
        due("34 STATE", x.restore(0), STATE);
        x = allLaidBy("e2,60,3;s2,5;t9,0;c4,0;");
        putAll(x, 1, 0, 1);
        x.image(1);
        due("34 none was kept", x.restore(0), STATE);
        x.takeOut(1);
        x.takeOut(1);
        Due.tell(x, "e1,5,1;t1,0;");
        x.shop();
        due("34 restored", x.restore(1), 1);
        due("34 no ACT", x.undo(), STATE);
        due("34 THINGS", x.count(1), 3);
        due("34 BAGS", x.count(2), 2);
        due("34 BEEP", x.count(3), 7);
        due("34 CRUSHED", x.stand(3), 1);
        due("34 WARM", x.stand(4), 4);
        due("34 LAID BY", x.stand(2), 4);
        due("34 LOAD", x.thing(0, 3), 9);
        due("34 HOLDS", x.torn(), 0);
        x.takeOut(1);
        due("34 kept yet", x.restore(1), 1);
        due("34 as it kept it", x.bag(1, 2), 1);
        x = Due.shopOf("e1,60,2;c1,0;c1,0;");
        x.beeps(2);
        x.image(0);
        x.undo();
        x.undo();
        x.swap();
        x.beeps(2);
        due("34 WARM is the other", x.stand(4), 2);
        x.restore(0);
        due("34 WARM is which came first then", x.stand(4), 1);
    }

    private static final String KINDS = "e1,60,1;t5,0;b6,0;r7,0;s3,4;c2,1;";

    private static void p35kind() {
        due("35 no SHOP", new EggsLast().kind(0), BAD);
        EggsLast x = Due.shopOf(KINDS);
        for (int thing = 0; thing < 5; thing++) {
            due("35 kind", x.kind(thing), thing + 1);
        }
        due("35 BAD", x.kind(5), BAD);
        due("35 BAD -1", x.kind(-1), BAD);
    }

    private static void p36as() {
        due("36 no SHOP", new EggsLast().as(0, 0), BAD);
        EggsLast x = Due.shopOf(KINDS);
        int[] fit = {0b000011, 0b000111, 0b001011, 0b010001, 0b110001};
        for (int thing = 0; thing < 5; thing++) {
            for (int kind = 0; kind < 6; kind++) {
                boolean is = (fit[thing] >> kind & 1) == 1;
                due("36 as(" + thing + ", " + kind + ")", x.as(thing, kind), is ? thing : KIND);
                due("36 status", x.status(), is ? 0 : 3);
            }
        }
        due("36 BAD", x.as(5, 0), BAD);
        due("36 BAD kind", x.as(0, 6), BAD);
        due("36 BAD kind -1", x.as(0, -1), BAD);
    }

    private static EggsLast kindsInBag() {
        EggsLast x = allLaidBy(KINDS);
        putAll(x, 0, 0, 1, 2, 3, 4);
        return x;
    }

    private static void p37ask() {
        due("37 no SHOP", new EggsLast().ask(0, 0), BAD);
        EggsLast x = kindsInBag();
        int[] sizes = {19, -20, -988, -97, -196};
        int[] marks = {14, 14, -995, 100, 200};
        for (int thing = 0; thing < 5; thing++) {
            due("37 SIZE of " + thing, x.ask(thing, 0), sizes[thing]);
            due("37 MARK of " + thing, x.ask(thing, 1), marks[thing]);
        }
        due("37 BAD", x.ask(5, 0), BAD);
        due("37 BAD -1", x.ask(-1, 0), BAD);
        due("37 BAD what", x.ask(0, 2), BAD);
        due("37 BAD what -1", x.ask(0, -1), BAD);
        x = Due.shopOf(KINDS);
        due("37 no LOAD on the BELT", x.ask(1, 0), -8);
    }

    private static void p38trace() {
        EggsLast x = kindsInBag();
        int[][] traces = {
            {11, 10, 21, 20}, {12, 11, 10, 24, 21, 20}, {11, 10, 22, 21, 20}, {13, 10}, {14, 13, 10},
            {21, 20}, {24, 21, 20}, {22, 21, 20}, {23, 20, 13, 10}, {23, 20, 14, 13, 10},
        };
        for (int ask = 0; ask < 10; ask++) {
            x.ask(ask % 5, ask / 5);
            for (int i = 0; i < traces[ask].length; i++) {
                due("38 trace(" + i + ") of " + ask, x.trace(i), traces[ask][i]);
            }
            due("38 behind it", x.trace(traces[ask].length), NONE);
        }
        due("38 -1", x.trace(-1), NONE);
        due("38 far", x.trace(MAX), NONE);
        x.ask(9, 0);
        due("38 what is BAD leaves it", x.trace(0), 23);
        Due.tell(x, "e1,5,1;t1,0;");
        x.shop();
        due("38 another SHOP leaves it", x.trace(0), 23);
    }

    private static void p39count() {
        EggsLast x = allLaidBy("e2,60,1;s2,5;t9,0;c1,0;");
        putAll(x, 0, 0, 1);
        putAll(x, 1, 2);
        x.row(3, 0, 0);
        x.row(4, 0, 1);
        x.feed('e');
        int[] want = {2, 3, 2, 7, 1, 12, 13, 1};
        for (int what = 0; what < 8; what++) {
            due("39 count(" + what + ")", x.count(what), want[what]);
        }
        due("39 BAD 8", x.count(8), BAD);
        due("39 BAD -1", x.count(-1), BAD);
    }

    private static void p40status() {
        EggsLast x = Due.shopOf("e2,60,1;s2,5;t9,0;");
        due("40 none", x.status(), 0);
        x.set(0, 0, 0);
        due("40 NULL", x.status(), 1);
        x.row(9, 0, 0);
        due("40 BAD leaves it", x.status(), 1);
        x.pack(0);
        x.kind(0);
        x.count(0);
        x.beeps(1);
        due("40 other calls leave it", x.status(), 1);
        x.row(0, 0, 1);
        due("40 0", x.status(), 0);
        x.set(0, 1, 0);
        due("40 PLACE", x.status(), 2);
        x.as(0, 1);
        due("40 KIND", x.status(), 3);
        x.as(0, 6);
        due("40 KIND yet", x.status(), 3);
        x.as(0, 4);
        due("40 as: 0", x.status(), 0);
        x.row(0, 0, -1);
        due("40 SIZE", x.status(), 4);
        x.row(1, 1, 1);
        x.copy(0, 0, 1, 0, 1);
        due("40 STORE", x.status(), 5);
        x.copy(0, 0, 0, 0, 1);
        due("40 copy: 0", x.status(), 0);
        x.astray(0, 0);
        due("40 astray: PLACE", x.status(), 2);
        x.drop(0);
        due("40 drop: 0", x.status(), 0);
        x.heavy(0, 0, 0);
        due("40 heavy: NULL", x.status(), 1);
        x.row(0, 0, 2);
        x.heavy(0, 0, 1);
        due("40 heavy: PLACE", x.status(), 2);
        x.heavy(0, 0, 0);
        due("40 heavy: 0", x.status(), 0);
        x.who(0, 0, 7, 0);
        due("40 who: NULL", x.status(), 1);
        x.who(0, 0, 0, 0);
        due("40 who: 0", x.status(), 0);
        x.drop(7);
        due("40 drop: NULL", x.status(), 1);
        x.astray(0, 0);
        due("40 astray: 0", x.status(), 0);
        EggsLast none = new EggsLast();
        none.drop(0);
        none.astray(0, 0);
        due("40 STATE leaves it", none.status(), 1);
    }

    private PromisesTest() {
    }
}
