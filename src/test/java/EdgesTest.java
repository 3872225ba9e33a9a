/**
 * "Promise 1" to "Promise 40", edge by edge: of each number that a call is given the last one inside a bound
 * and the first one outside it, on both sides, the least and the greatest int; what is empty and what is
 * full; and each BAD, STATE, FULL, NONE and FINDING. Every refused call is looked at by Changes, too.
 */
public final class EdgesTest {
    private static final Due DUE = new Due("edges");

    public static void main(String[] args) {
        newObject();
        row();
        set();
        copyPlaces();
        copyItems();
        drop();
        feed();
        shop();
        fault();
        undo();
        beeps();
        pack();
        layBy();
        putIn();
        takeOut();
        swap();
        thing();
        bag();
        stand();
        least();
        torn();
        give();
        order();
        top();
        spare();
        beside();
        even();
        astray();
        heavy();
        who();
        colds();
        tears();
        drawn();
        image();
        restore();
        kind();
        as();
        ask();
        trace();
        count();
        status();
        DUE.end();
    }

    private static void says(String sentence, String lines) {
        Script.says(DUE, sentence, lines);
    }

    private static void newObject() {
        says("1 No SHOP", """
            count 0 = 0
            count 1 = 0
            count 2 = 0
            count 3 = 0
            count 4 = 0
            count 5 = 0
            count 6 = 0
            count 7 = 0
            status = 0
            fault = 0
            trace 0 = NONE
            undo = STATE
            stand 0 = STATE
            restore 0 = STATE
            restore 1 = STATE
            """);
    }

    // ---- rows

    private static void row() {
        says("2 BAD: ROW", """
            row 0 0 1 = 1
            row 7 0 1 = 1
            row -1 0 1 = BAD
            row 8 0 1 = BAD
            row MIN 0 1 = BAD
            row MAX 0 1 = BAD
            count 0 = 2
            """);
        says("2 BAD: LANE", """
            row 0 0 1 = 1
            row 0 2 1 = 1
            row 0 -1 1 = BAD
            row 0 3 1 = BAD
            row 0 MIN 1 = BAD
            row 0 MAX 1 = BAD
            """);
        says("2 BAD: n above 40", """
            fill 0 0 7 8 9
            row 0 0 41 = BAD
            row 0 0 MAX = BAD
            row 0 0 40 = 40
            drop 0 = 40
            """);
        says("2 SIZE", """
            row 0 0 0 = 0
            fill 1 0 7 8 9
            row 1 0 -1 = SIZE
            row 1 2 MIN = SIZE
            row 2 0 -1 = SIZE
            count 0 = 2
            drop 1 = 3
            drop 2 = NULL
            """);
        says("2 BAD is ahead of SIZE", """
            row -1 0 -1 = BAD
            row 8 0 MIN = BAD
            row 0 -1 -1 = BAD
            row 0 3 MIN = BAD
            status = 0
            """);
        says("2 in place of what is there: another LANE", """
            fill 0 0 7 8 9
            row 0 1 3 = 3
            set 0 0 256 = 256
            row 0 2 3 = 3
            set 0 0 65536 = 65536
            row 0 0 3 = 3
            set 0 0 256 = 0
            """);
        says("2 in place of what is there: fewer ITEMS, more ITEMS", """
            fill 0 0 7 8 9
            row 0 0 2 = 2
            set 0 2 1 = PLACE
            row 0 0 4 = 4
            set 0 3 1 = 1
            set 0 4 1 = PLACE
            count 0 = 1
            """);
        says("2 in place of what is there: 0 at first", """
            shop e1,60,1;t1,0; = 1
            fill 0 0 7 8 9
            astray 0 2 = 0
            row 0 0 3 = 3
            astray 0 0 = 128
            astray 0 1 = 128
            astray 0 2 = 128
            fill 0 0 7 8 9
            drop 0 = 3
            row 0 0 3 = 3
            astray 0 2 = 128
            """);
        says("2 all eight, full", """
            row 0 0 40 = 40
            row 1 1 40 = 40
            row 2 2 40 = 40
            row 3 0 40 = 40
            row 4 1 40 = 40
            row 5 2 40 = 40
            row 6 0 40 = 40
            row 7 1 40 = 40
            count 0 = 8
            set 7 39 5 = 5
            drop 0 = 40
            count 0 = 7
            """);
    }

    private static void set() {
        says("3 its lowest bits, as many as the LANE has: bytes", """
            row 0 0 1
            set 0 0 127 = 127
            set 0 0 128 = -128
            set 0 0 255 = -1
            set 0 0 256 = 0
            set 0 0 -128 = -128
            set 0 0 -129 = 127
            set 0 0 MIN = 0
            set 0 0 MAX = -1
            """);
        says("3 its lowest bits, as many as the LANE has: shorts", """
            row 0 1 1
            set 0 0 32767 = 32767
            set 0 0 32768 = -32768
            set 0 0 65535 = -1
            set 0 0 65536 = 0
            set 0 0 -32768 = -32768
            set 0 0 -32769 = 32767
            set 0 0 MIN = 0
            set 0 0 MAX = -1
            """);
        says("3 its lowest bits, as many as the LANE has: ints", """
            row 0 2 1
            set 0 0 65536 = 65536
            set 0 0 MIN = MIN
            set 0 0 MAX = MAX
            set 0 0 -1 = -1
            """);
        says("3 ITEM i becomes v, and no other", """
            laid e1,60,1;t1,0;
            into 0 0
            fill 0 0 3 4 5
            set 0 1 9 = 9
            heavy 0 0 0 = 8
            heavy 0 0 1 = 512
            heavy 0 0 2 = 32
            set 0 0 20 = 20
            set 0 2 1 = 1
            heavy 0 0 0 = 1048576
            heavy 0 0 1 = 512
            heavy 0 0 2 = 2
            """);
        says("3 an ITEM keeps its lowest bits alone", """
            laid e1,60,1;t1,0;
            into 0 0
            row 0 0 1
            set 0 0 257 = 1
            astray 0 0 = 128
            """);
        says("3 BAD: ROW", """
            row 0 0 1
            row 7 0 1
            set 0 0 1 = 1
            set 7 0 1 = 1
            set -1 0 1 = BAD
            set 8 0 1 = BAD
            set MIN 0 1 = BAD
            set MAX 0 1 = BAD
            set 8 -1 1 = BAD
            """);
        says("3 NULL", """
            row 0 0 1
            set 1 0 1 = NULL
            set 1 -1 1 = NULL
            set 1 MAX 1 = NULL
            drop 0
            set 0 0 1 = NULL
            """);
        says("3 PLACE", """
            fill 0 0 7 8 9
            set 0 -1 1 = PLACE
            set 0 0 1 = 1
            set 0 2 1 = 1
            set 0 3 1 = PLACE
            set 0 MIN 1 = PLACE
            set 0 MAX 1 = PLACE
            """);
        says("3 PLACE: an empty ROW has none, a full one 40", """
            row 0 0 0
            set 0 0 1 = PLACE
            set 0 -1 1 = PLACE
            row 0 0 40
            set 0 39 1 = 1
            set 0 40 1 = PLACE
            """);
    }

    private static void copyPlaces() {
        says("4 BAD: ROWS", """
            fill 0 0 7 8
            fill 7 0 5 6
            copy 0 0 7 0 1 = 1
            copy 7 0 0 0 1 = 1
            copy -1 0 0 0 1 = BAD
            copy 8 0 0 0 1 = BAD
            copy 0 0 -1 0 1 = BAD
            copy 0 0 8 0 1 = BAD
            copy MIN 0 0 0 1 = BAD
            copy MAX 0 0 0 1 = BAD
            copy 0 0 MIN 0 1 = BAD
            copy 0 0 MAX 0 1 = BAD
            copy 1 -1 8 -1 -1 = BAD
            copy 8 -1 1 -1 -1 = BAD
            """);
        says("4 NULL", """
            fill 0 0 7 8
            copy 0 0 1 0 1 = NULL
            copy 1 0 0 0 1 = NULL
            copy 1 0 2 0 1 = NULL
            copy 1 0 1 0 0 = NULL
            copy 0 -1 1 0 1 = NULL
            copy 1 0 0 0 MIN = NULL
            """);
        says("4 NULL: a missing ROW has no LANE, whatever it had ahead", """
            fill 0 0 7 8
            fill 1 1 7 8
            fill 2 2 7 8
            copy 0 0 3 0 1 = NULL
            copy 1 0 3 0 1 = NULL
            copy 3 0 2 0 1 = NULL
            drop 1
            copy 0 0 1 0 1 = NULL
            copy 1 0 2 0 1 = NULL
            """);
        says("4 STORE: each two LANES, though none is copied", """
            fill 0 0 7 8
            fill 1 1 7 8
            fill 2 2 7 8
            copy 0 0 1 0 1 = STORE
            copy 1 0 0 0 1 = STORE
            copy 0 0 2 0 1 = STORE
            copy 2 0 0 0 1 = STORE
            copy 1 0 2 0 1 = STORE
            copy 2 0 1 0 1 = STORE
            copy 0 0 1 0 0 = STORE
            copy 0 -1 1 0 1 = STORE
            copy 0 0 1 3 MIN = STORE
            """);
        says("4 PLACE: below 0", """
            fill 0 0 7 8 9
            fill 1 0 4 5 6
            copy 0 -1 1 0 1 = PLACE
            copy 0 0 1 -1 1 = PLACE
            copy 0 0 1 0 -1 = PLACE
            copy 0 MIN 1 0 1 = PLACE
            copy 0 0 1 MIN 1 = PLACE
            copy 0 0 1 0 MIN = PLACE
            copy 0 1 1 1 -1 = PLACE
            copy 0 -1 1 0 0 = PLACE
            copy 0 0 1 -1 0 = PLACE
            """);
        says("4 PLACE: beyond an end", """
            fill 0 0 7 8 9
            fill 1 0 4 5 6 2
            copy 0 0 1 0 3 = 3
            copy 0 0 1 0 4 = PLACE
            copy 0 1 1 0 2 = 2
            copy 0 1 1 0 3 = PLACE
            copy 0 2 1 3 1 = 1
            copy 0 3 1 0 1 = PLACE
            copy 0 0 1 2 2 = 2
            copy 0 0 1 2 3 = PLACE
            copy 0 0 1 4 1 = PLACE
            copy 0 0 0 1 3 = PLACE
            copy 0 1 0 0 3 = PLACE
            """);
        says("4 PLACE: so far beyond that a sum would wrap", """
            fill 0 0 7 8 9
            fill 1 0 4 5 6
            copy 0 MAX 1 0 1 = PLACE
            copy 0 0 1 MAX 1 = PLACE
            copy 0 0 1 0 MAX = PLACE
            copy 0 1 1 0 MAX = PLACE
            copy 0 0 1 1 MAX = PLACE
            copy 0 MAX 1 MAX MAX = PLACE
            copy 0 MAX 1 0 0 = PLACE
            copy 0 0 1 MAX 0 = PLACE
            """);
        says("4 none may be copied, at the very end, too", """
            fill 0 0 7 8 9
            row 1 0 0
            copy 0 0 0 0 0 = 0
            copy 0 3 1 0 0 = 0
            copy 1 0 0 3 0 = 0
            copy 0 4 1 0 0 = PLACE
            copy 1 0 0 4 0 = PLACE
            copy 1 1 0 0 0 = PLACE
            copy 1 0 0 0 1 = PLACE
            copy 0 0 1 0 1 = PLACE
            """);
        says("4 a full ROW: all 40", """
            row 0 2 40
            row 1 2 40
            copy 0 0 1 0 40 = 40
            copy 0 0 1 0 41 = PLACE
            copy 0 1 1 0 40 = PLACE
            copy 0 39 1 39 1 = 1
            copy 0 40 1 40 0 = 0
            copy 0 41 1 40 0 = PLACE
            """);
    }

    private static void copyItems() {
        String twoRows = """
            laid e1,60,1;t1,0;
            into 0 0
            fill 0 0 2 3 4 5
            fill 1 0 6 7 8
            """;
        says("4 n ITEMS of a from i on come to b from j on, and no other changes", twoRows + """
            copy 0 1 1 0 2 = 2
            heavy 0 1 0 = 8
            heavy 0 1 1 = 16
            heavy 0 1 2 = 256
            heavy 0 0 0 = 4
            heavy 0 0 1 = 8
            heavy 0 0 2 = 16
            heavy 0 0 3 = 32
            """);
        says("4 as they were ahead: to the right in one ROW", twoRows + """
            copy 0 0 0 1 3 = 3
            heavy 0 0 0 = 4
            heavy 0 0 1 = 4
            heavy 0 0 2 = 8
            heavy 0 0 3 = 16
            """);
        says("4 as they were ahead: to the left in one ROW", twoRows + """
            copy 0 1 0 0 3 = 3
            heavy 0 0 0 = 8
            heavy 0 0 1 = 16
            heavy 0 0 2 = 32
            heavy 0 0 3 = 32
            """);
        says("4 onto itself", twoRows + """
            copy 0 0 0 0 4 = 4
            heavy 0 0 0 = 4
            heavy 0 0 3 = 32
            """);
    }

    private static void drop() {
        says("5 how many ITEMS it had: none, 40", """
            row 0 0 0
            row 7 2 40
            drop 0 = 0
            drop 7 = 40
            count 0 = 0
            """);
        says("5 BAD", """
            row 0 0 1
            drop -1 = BAD
            drop 8 = BAD
            drop MIN = BAD
            drop MAX = BAD
            drop 0 = 1
            """);
        says("5 NULL; missing from now on", """
            shop e1,60,1;t1,0; = 1
            drop 0 = NULL
            row 0 0 1
            drop 0 = 1
            drop 0 = NULL
            set 0 0 1 = NULL
            copy 0 0 0 0 0 = NULL
            astray 0 0 = NULL
            heavy 0 0 0 = NULL
            who 0 0 0 0 = NULL
            row 0 1 2 = 2
            drop 0 = 2
            """);
    }

    // ---- what is told

    private static void feed() {
        says("6 A byte (0 to 255)", """
            feed 0 = 1
            feed 255 = 2
            feed -1 = BAD
            feed 256 = BAD
            feed MIN = BAD
            feed MAX = BAD
            count 7 = 2
            """);
        says("6 FULL", """
            119* feed 'x'
            feed 'x' = 120
            feed 'x' = FULL
            feed 0 = FULL
            feed 255 = FULL
            feed -1 = BAD
            feed 256 = BAD
            feed MIN = BAD
            feed MAX = BAD
            count 7 = 120
            shop = -1000100
            feed 'x' = 1
            """);
        says("6 comes behind the tape", """
            tell e1,5,1;t1,0;
            feed 'c' = 13
            feed '2' = 14
            feed ',' = 15
            feed '3' = 16
            feed ';' = 17
            shop = 2
            kind 1 = 5
            thing 1 0 = 2
            thing 1 1 = 3
            """);
    }

    private static void shop() {
        says("7 how many THINGS there are: the fewest, the most", """
            shop e1,5,1;t1,0; = 1
            shop e1,5,1;t1,0;t1,0;t1,0;t1,0;t1,0;t1,0;t1,0; = 7
            """);
        says("7 The tape is empty then", """
            tell e1,5,1;t1,0;
            count 7 = 12
            shop = 1
            count 7 = 0
            shop = -1000100
            """);
        says("7 The tape is empty then, behind a FAULT, too", """
            tell e9
            shop = -1000101
            count 7 = 0
            feed 'e' = 1
            """);
        says("7 a FAULT: all stays", """
            shop e2,20,2;s2,9;t9,0;c4,2; = 3
            fill 0 0 7 8 9
            beeps 2
            layBy = 1
            pack 1 = 0
            image 0 = 1
            putIn 1 1 = 9
            beeps 1
            ask 0 0 = -98
            set 0 3 1 = PLACE
            tell e3,60,40;c20,9;t
            shop = -1000116
            fault = 1
            count 1 = 3
            count 2 = 2
            count 3 = 3
            count 4 = 1
            count 5 = 11
            count 6 = 6
            stand 1 = 4
            bag 1 1 = 3
            status = 2
            trace 0 = 13
            restore 0 = 1
            count 4 = 0
            """);
        says("7 no SHOP, a FAULT: no SHOP yet", """
            tell e1,5,1;t1,0;t
            shop = -1000113
            stand 0 = STATE
            count 1 = 0
            count 2 = 0
            thing 0 0 = BAD
            """);
    }

    private static void fault() {
        says("8 0 before one", """
            fault = 0
            shop e1,5,1;t1,0; = 1
            fault = 0
            """);
        says("8 the latest FAULT, though the next text has none", """
            tell e1,5,1;t0
            shop = -1000108
            fault = 2
            shop e1,5,1;t1,0; = 1
            fault = 2
            tell q
            shop = -1000100
            fault = 1
            """);
    }

    private static void undo() {
        says("9 STATE: none", """
            undo = STATE
            shop e1,60,1;t1,0; = 1
            undo = STATE
            beeps 1
            undo = 0
            undo = STATE
            """);
        says("9 STATE: none behind an IMAGE, behind another SHOP", """
            shop e1,60,1;t1,0; = 1
            beeps 2
            image 0 = 1
            count 6 = 2
            restore 0 = 1
            undo = STATE
            beeps 1
            shop e1,60,1;t1,0; = 1
            undo = STATE
            """);
        says("9 how many can be undone yet", """
            shop e1,60,1;t1,0; = 1
            beeps 24
            undo = 23
            undo = 22
            beeps 3
            count 6 = 24
            undo = 23
            """);
        says("9 a call that is refused, or foretold, is no ACT", """
            shop e1,60,1;t1,0;t1,0; = 2
            beeps 1
            pack 1 = BAD
            takeOut 0 = STATE
            beeps 0 = BAD
            swap = STATE
            least -1 = 0
            drawn 60 1 1 = 2
            undo = 0
            undo = STATE
            """);
    }

    // ---- what is done

    private static void beeps() {
        says("10 n BEEPS (1 to 24)", """
            shop e1,60,1;t1,0;t1,0;t1,0; = 3
            beeps 1 = 2
            beeps 24 = 0
            count 3 = 25
            beeps 0 = BAD
            beeps 25 = BAD
            beeps -1 = BAD
            beeps MIN = BAD
            beeps MAX = BAD
            count 3 = 25
            """);
        says("10 STATE: no SHOP (ahead of BAD)", """
            beeps 1 = STATE
            beeps 24 = STATE
            beeps 0 = STATE
            beeps 25 = STATE
            beeps MIN = STATE
            beeps MAX = STATE
            """);
        says("10 FULL: BEEP would be above 999: by the most", """
            shop e1,60,1;t1,0; = 1
            40* beeps 24
            beeps 15 = 0
            count 3 = 975
            beeps 24 = 0
            count 3 = 999
            undo = 23
            count 3 = 998
            beeps 2 = FULL
            beeps 24 = FULL
            beeps 1 = 0
            """);
        says("10 FULL: BEEP would be above 999: by one", """
            shop e1,60,1;t1,0; = 1
            40* beeps 24
            beeps 16 = 0
            count 3 = 976
            beeps 24 = FULL
            count 3 = 976
            beeps 23 = 0
            count 3 = 999
            beeps 1 = FULL
            beeps 24 = FULL
            beeps 0 = BAD
            beeps 25 = BAD
            beeps MIN = BAD
            beeps MAX = BAD
            """);
        says("10 a full BELT, an empty one", """
            shop e1,60,1;t1,0;t1,0;t1,0;t1,0;t1,0;t1,0;t1,0; = 7
            beeps 1 = 6
            beeps 6 = 0
            stand 1 = 127
            beeps 1 = 0
            stand 1 = 127
            """);
        says("10 an ACT each", """
            shop e1,60,1;t1,0;t1,0;t1,0; = 3
            beeps 3 = 0
            count 6 = 3
            undo = 2
            stand 0 = 4
            """);
    }

    private static void pack() {
        says("11 BAD: one BAG", """
            shop e1,60,1;t1,0;t1,0; = 2
            beeps 2
            pack -1 = BAD
            pack 1 = BAD
            pack 2 = BAD
            pack MIN = BAD
            pack MAX = BAD
            pack 0 = 1
            """);
        says("11 BAD: three BAGS", """
            shop e3,60,1;t1,0;t1,0; = 2
            beeps 2
            pack 3 = BAD
            pack 2 = 1
            bag 2 1 = 2
            """);
        says("11 STATE: no SHOP (ahead of BAD)", """
            pack 0 = STATE
            pack -1 = STATE
            pack 3 = STATE
            pack MIN = STATE
            pack MAX = STATE
            """);
        says("11 STATE: the HEAP is empty", """
            shop e1,60,1;t1,0; = 1
            pack 0 = STATE
            pack 1 = BAD
            beeps 1
            pack 0 = 0
            pack 0 = STATE
            pack -1 = BAD
            """);
        says("11 a full HEAP into one BAG, from its top on", """
            shop e1,60,1;t1,0;t1,0;t1,0;t1,0;t1,0;t1,0;t1,0; = 7
            beeps 7
            pack 0 = 6
            pack 0 = 5
            pack 0 = 4
            pack 0 = 3
            pack 0 = 2
            pack 0 = 1
            pack 0 = 0
            pack 0 = STATE
            bag 0 1 = 127
            bag 0 2 = 0
            """);
    }

    private static void layBy() {
        says("12 STATE: no SHOP", """
            layBy = STATE
            """);
        says("12 STATE: the HEAP is empty", """
            shop e1,60,1;t1,0; = 1
            layBy = STATE
            beeps 1
            layBy = 0
            layBy = STATE
            """);
        says("12 a full HEAP", """
            shop e1,60,1;t1,0;t1,0;t1,0;t1,0;t1,0;t1,0;t1,0; = 7
            beeps 7
            layBy = 6
            layBy = 5
            layBy = 4
            layBy = 3
            layBy = 2
            layBy = 1
            layBy = 0
            layBy = STATE
            stand 2 = 127
            """);
    }

    private static void putIn() {
        says("13 BAD: THING", """
            putIn 0 0 = BAD
            laid e2,60,1;t1,0;t1,0;
            putIn -1 0 = BAD
            putIn 2 0 = BAD
            putIn MIN 0 = BAD
            putIn MAX 0 = BAD
            putIn 1 0 = 0
            """);
        says("13 BAD: THING 7 of seven", """
            laid e1,60,1;t1,0;t1,0;t1,0;t1,0;t1,0;t1,0;t1,0;
            putIn 7 0 = BAD
            putIn 6 0 = 0
            """);
        says("13 BAD: BAG", """
            laid e2,60,1;t1,0;t1,0;
            putIn 0 -1 = BAD
            putIn 0 2 = BAD
            putIn 0 MIN = BAD
            putIn 0 MAX = BAD
            putIn 0 1 = 0
            putIn 0 2 = BAD
            """);
        says("13 STATE: it is not LAID BY", """
            shop e1,60,1;t1,0;t1,0;t1,0; = 3
            beeps 2
            putIn 2 0 = STATE
            putIn 1 0 = STATE
            layBy = 1
            putIn 1 0 = 0
            putIn 1 0 = STATE
            putIn 1 1 = BAD
            """);
        says("13 LOAD on the one below it then (0: there is none)", """
            laid e2,60,1;t1,0;b20,0;r1,0;c3,0;t20,0;
            putIn 0 0 = 0
            putIn 1 0 = 22
            putIn 2 0 = 0
            putIn 3 0 = 2
            putIn 4 1 = 0
            thing 0 3 = 24
            """);
    }

    private static void takeOut() {
        says("14 BAD", """
            laid e2,60,1;t1,0;t2,0;
            into 1 0
            takeOut -1 = BAD
            takeOut 2 = BAD
            takeOut MIN = BAD
            takeOut MAX = BAD
            takeOut 1 = 0
            """);
        says("14 STATE: no SHOP (ahead of BAD)", """
            takeOut 0 = STATE
            takeOut -1 = STATE
            takeOut 3 = STATE
            takeOut MIN = STATE
            takeOut MAX = STATE
            """);
        says("14 STATE: it is empty, though another is not", """
            laid e2,60,1;t1,0;t2,0;
            into 1 0
            takeOut 0 = STATE
            takeOut 1 = 0
            takeOut 1 = STATE
            takeOut 2 = BAD
            """);
        says("14 a full BAG, from its top on", """
            laid e1,60,1;t1,0;t1,0;t1,0;t1,0;t1,0;t1,0;t1,0;
            into 0 0 1 2 3 4 5 6
            takeOut 0 = 6
            takeOut 0 = 5
            takeOut 0 = 4
            takeOut 0 = 3
            takeOut 0 = 2
            takeOut 0 = 1
            takeOut 0 = 0
            takeOut 0 = STATE
            stand 2 = 127
            """);
    }

    private static void swap() {
        says("15 STATE: no SHOP", """
            swap = STATE
            """);
        says("15 STATE: there are not two", """
            shop e1,60,1;t1,0;t1,0; = 2
            swap = 1
            beeps 1 = 1
            swap = STATE
            beeps 1 = 0
            swap = STATE
            """);
        says("15 STATE: one alone from the start", """
            shop e1,60,1;t1,0; = 1
            swap = STATE
            """);
        says("15 the first two of a full BELT", """
            shop e1,60,1;t1,0;t1,0;t1,0;t1,0;t1,0;t1,0;t1,0; = 7
            swap = 1
            beeps 1
            stand 6 = 1
            stand 5 = 0
            beeps 1
            stand 5 = 2
            """);
    }

    private static void thing() {
        says("16 BAD: THING", """
            thing 0 0 = BAD
            shop e1,60,1;t3,4;t5,6; = 2
            thing -1 0 = BAD
            thing 2 0 = BAD
            thing MIN 0 = BAD
            thing MAX 0 = BAD
            thing 0 0 = 3
            thing 1 0 = 5
            thing 1 1 = 6
            """);
        says("16 BAD: what", """
            shop e1,60,1;t3,4; = 1
            thing 0 -1 = BAD
            thing 0 8 = BAD
            thing 0 MIN = BAD
            thing 0 MAX = BAD
            thing 0 0 = 3
            thing 0 7 = 0
            """);
        says("16 the last of seven", """
            shop e1,60,1;t1,0;t1,0;t1,0;t1,0;t1,0;t1,0;t20,9; = 7
            thing 6 0 = 20
            thing 6 1 = 9
            thing 7 0 = BAD
            """);
        says("16 where it is", """
            shop e3,60,1;t1,0;t1,0;t1,0;t1,0;t1,0;t1,0; = 6
            beeps 5
            layBy = 4
            pack 2 = 3
            pack 1 = 2
            pack 0 = 1
            thing 5 2 = 0
            thing 0 2 = 1
            thing 4 2 = 2
            thing 1 2 = 3
            thing 2 2 = 4
            thing 3 2 = 5
            """);
    }

    private static void bag() {
        says("17 BAD: BAG", """
            bag 0 0 = BAD
            laid e2,60,1;t3,0;
            into 1 0
            bag -1 0 = BAD
            bag 2 0 = BAD
            bag MIN 0 = BAD
            bag MAX 0 = BAD
            bag 0 0 = 0
            bag 1 0 = 3
            """);
        says("17 BAD: what", """
            laid e1,60,1;t3,0;
            into 0 0
            bag 0 -1 = BAD
            bag 0 4 = BAD
            bag 0 MIN = BAD
            bag 0 MAX = BAD
            bag 0 0 = 3
            bag 0 3 = 0
            """);
        says("17 the top one (NONE): an empty BAG, a full one, an empty one again", """
            laid e1,60,1;t1,0;t1,0;t1,0;t1,0;t1,0;t1,0;t1,0;
            bag 0 2 = NONE
            bag 0 1 = 0
            into 0 6 5 4 3 2 1 0
            bag 0 2 = 0
            bag 0 1 = 127
            bag 0 0 = 7
            6* takeOut 0
            bag 0 2 = 6
            takeOut 0
            bag 0 2 = NONE
            bag 0 0 = 0
            """);
    }

    private static void stand() {
        says("18 BAD", """
            shop e1,60,1;t3,0; = 1
            stand -1 = BAD
            stand 7 = BAD
            stand MIN = BAD
            stand MAX = BAD
            stand 0 = 1
            stand 6 = NONE
            """);
        says("18 STATE: no SHOP (ahead of BAD)", """
            stand 0 = STATE
            stand 6 = STATE
            stand -1 = STATE
            stand 7 = STATE
            stand MIN = STATE
            stand MAX = STATE
            """);
        says("18 a full BELT, a full HEAP, all LAID BY, all in BAGS", """
            shop e1,60,1;c1,9;c1,9;c1,9;c1,9;c1,9;c1,9;c1,9; = 7
            stand 0 = 127
            stand 1 = 0
            stand 4 = 0
            stand 5 = 0
            stand 6 = NONE
            beeps 7
            stand 0 = 0
            stand 1 = 127
            stand 4 = 127
            stand 5 = NONE
            stand 6 = 6
            6* layBy
            stand 2 = 126
            stand 6 = 0
            layBy
            stand 2 = 127
            stand 6 = NONE
            into 0 0 1 2 3 4 5
            stand 3 = 31
            into 0 6
            stand 2 = 0
            stand 3 = 63
            stand 4 = 127
            """);
    }

    // ---- foretold

    private static void least() {
        says("19 BAD: k below -2, no such THING", """
            shop e2,60,1;t3,0;t4,0; = 2
            least -3 = BAD
            least 2 = BAD
            least MIN = BAD
            least MAX = BAD
            least -2 = 4
            least -1 = 0
            least 0 = 0
            least 1 = 1
            """);
        says("19 BAD: THING 7 of seven", """
            shop e1,60,1;t1,0;t1,0;t1,0;t1,0;t1,0;t1,0;t1,0; = 7
            least 7 = BAD
            least 6 = 0
            """);
        says("19 STATE: no SHOP (ahead of BAD)", """
            least -1 = STATE
            least 0 = STATE
            least -3 = STATE
            least MIN = STATE
            least MAX = STATE
            """);
        says("19 NONE: it is in a BAG already", """
            laid e2,60,1;t3,0;t4,0;
            into 0 0
            least 0 = NONE
            least 1 = 1
            """);
    }

    private static void torn() {
        says("20 STATE: no SHOP", """
            torn = STATE
            """);
        says("20 the fewest, and the most", """
            laid e3,5,1;t5,0;t6,0;t6,0;t6,0;
            torn = 1
            into 0 1
            into 1 2
            into 2 3
            torn = 3
            """);
    }

    private static void give() {
        says("21 BAD", """
            shop e1,60,1;s1,9;t4,0; = 2
            give -1 = BAD
            give 2 = BAD
            give MIN = BAD
            give MAX = BAD
            give 0 = 0
            give 1 = 0
            """);
        says("21 STATE: no SHOP (ahead of BAD)", """
            give 0 = STATE
            give 1 = STATE
            give -1 = STATE
            give 2 = STATE
            give MIN = STATE
            give MAX = STATE
            """);
        says("21 NONE: nothing is to be packed, BAD yet", """
            laid e1,60,1;t4,0;
            give 0 = 0
            into 0 0
            give 0 = NONE
            give 1 = NONE
            give 2 = BAD
            """);
    }

    private static void order() {
        says("22 BAD: k below -1", """
            shop e1,60,1;s1,9;t4,0; = 2
            order 0 -2 = BAD
            order 0 MIN = BAD
            order 0 -1 = 0
            order 0 0 = 1
            """);
        says("22 BAD: BAG", """
            shop e2,60,1;s1,9;t4,0; = 2
            order -1 -1 = BAD
            order 2 -1 = BAD
            order MIN 0 = BAD
            order MAX 0 = BAD
            order 2 5 = BAD
            order 1 -1 = 0
            order 0 0 = 1
            """);
        says("22 STATE: no SHOP (ahead of BAD)", """
            order 0 -1 = STATE
            order 0 0 = STATE
            order -1 0 = STATE
            order 3 0 = STATE
            order 0 -2 = STATE
            order MIN MIN = STATE
            order MAX MAX = STATE
            """);
        says("22 NONE: not so many are there", """
            shop e1,60,1;s1,9;t4,0; = 2
            order 0 1 = 0
            order 0 2 = NONE
            order 0 7 = NONE
            order 0 MAX = NONE
            beeps 1
            order 0 0 = 1
            order 0 1 = NONE
            beeps 1
            order 0 0 = NONE
            order 0 -1 = 0
            """);
    }

    private static void top() {
        says("23 BAD", """
            top 0 = BAD
            shop e2,60,1;s1,9;t4,0; = 2
            top -1 = BAD
            top 2 = BAD
            top MIN = BAD
            top MAX = BAD
            top 0 = 3
            top 1 = 3
            """);
        says("23 an empty BAG of three, seven THINGS", """
            shop e3,60,1;t20,0;b20,0;t1,0;t1,0;t1,0;t1,0;t1,0; = 7
            top 2 = 127
            top 3 = BAD
            """);
        says("23 none may lie there", """
            laid e1,60,1;s1,9;t1,0;b1,0;c1,0;s1,0;
            into 0 0
            top 0 = 0
            """);
    }

    private static void spare() {
        says("24 BAD", """
            spare 0 = BAD
            laid e1,60,1;t1,0;b1,0;
            into 0 0 1
            spare -1 = BAD
            spare 2 = BAD
            spare MIN = BAD
            spare MAX = BAD
            spare 0 = 57
            spare 1 = 20
            """);
        says("24 STATE: it is in no BAG", """
            shop e1,60,1;t1,0;b1,0;t1,0;t1,0; = 4
            beeps 3
            layBy = 2
            spare 3 = STATE
            spare 1 = STATE
            spare 2 = STATE
            spare 4 = BAD
            pack 0 = 1
            spare 1 = 20
            """);
    }

    private static void beside() {
        says("25 BAD: THING", """
            beside 0 0 = BAD
            laid e1,60,1;t1,0;b1,0;
            into 0 0 1
            beside -1 0 = BAD
            beside 2 0 = BAD
            beside MIN 1 = BAD
            beside MAX 1 = BAD
            beside 0 1 = 2
            beside 1 0 = 1
            """);
        says("25 BAD: up", """
            laid e1,60,1;t1,0;b1,0;
            into 0 0 1
            beside 0 -1 = BAD
            beside 0 2 = BAD
            beside 0 MIN = BAD
            beside 0 MAX = BAD
            beside 0 0 = 0
            beside 0 1 = 2
            """);
        says("25 none, if it is in no BAG", """
            shop e1,60,1;t1,0;b1,0;t1,0;t1,0;t1,0; = 5
            beeps 4
            layBy = 3
            layBy = 2
            beside 4 0 = 0
            beside 4 1 = 0
            beside 0 1 = 0
            beside 1 0 = 0
            beside 2 0 = 0
            beside 3 1 = 0
            beside 4 2 = BAD
            """);
    }

    private static void even() {
        says("26 STATE: no SHOP", """
            even = STATE
            """);
        says("26 one BAG is the heaviest and the lightest one", """
            laid e1,60,1;t20,0;
            even = 0
            into 0 0
            even = 0
            """);
        says("26 all in one of three", """
            laid e3,60,1;t20,0;t20,0;t20,0;t20,0;t20,0;t20,0;t20,0;
            even = 0
            into 2 0 1 2 3 4 5 6
            even = 140
            """);
    }

    private static void astray() {
        says("27 BAD: ROW", """
            shop e1,60,1;t1,0; = 1
            row 0 0 1
            row 7 0 1
            astray -1 0 = BAD
            astray 8 0 = BAD
            astray MIN 0 = BAD
            astray MAX 0 = BAD
            astray 0 0 = 128
            astray 7 0 = 128
            """);
        says("27 STATE: no SHOP (ahead of BAD)", """
            row 0 0 1
            set 0 1 1 = PLACE
            astray 0 0 = STATE
            astray 1 0 = STATE
            astray -1 0 = STATE
            astray 8 0 = STATE
            astray MIN MIN = STATE
            astray MAX MAX = STATE
            astray 0 1 = STATE
            """);
        says("27 NULL", """
            shop e1,60,1;t1,0; = 1
            row 0 0 1
            astray 1 0 = NULL
            astray 1 -1 = NULL
            astray 1 MAX = NULL
            astray 9 0 = BAD
            """);
        says("27 PLACE: two BAGS", """
            shop e2,60,1;t1,0; = 1
            row 0 0 3
            astray 0 -1 = PLACE
            astray 0 0 = 128
            astray 0 1 = 128
            astray 0 2 = PLACE
            astray 0 3 = PLACE
            astray 0 MIN = PLACE
            astray 0 MAX = PLACE
            """);
        says("27 PLACE: three BAGS, a ROW of two, an empty one, a full one", """
            shop e3,60,1;t1,0; = 1
            row 0 0 2
            row 1 0 0
            row 2 0 40
            astray 0 0 = PLACE
            astray 1 0 = PLACE
            astray 2 37 = 128
            astray 2 38 = PLACE
            """);
    }

    private static void heavy() {
        says("28 BAD: THING", """
            row 0 0 1
            heavy 0 0 0 = BAD
            laid e1,60,1;t1,0;t1,0;
            into 0 0
            set 0 0 1
            heavy -1 0 0 = BAD
            heavy 2 0 0 = BAD
            heavy MIN 0 0 = BAD
            heavy MAX 0 0 = BAD
            heavy 0 0 0 = 2
            heavy 1 0 0 = 2097150
            """);
        says("28 BAD: ROW", """
            laid e1,60,1;t1,0;
            into 0 0
            fill 0 0 1
            fill 7 0 2
            heavy 0 -1 0 = BAD
            heavy 0 8 0 = BAD
            heavy 0 MIN 0 = BAD
            heavy 0 MAX 0 = BAD
            heavy 0 0 0 = 2
            heavy 0 7 0 = 4
            """);
        says("28 NULL, ahead of PLACE, behind BAD", """
            laid e1,60,1;t1,0;
            heavy 0 0 0 = NULL
            heavy 0 0 -1 = NULL
            heavy 1 0 0 = BAD
            """);
        says("28 PLACE", """
            laid e2,60,1;t1,0;
            into 0 0
            fill 0 0 5 0 0
            heavy 0 0 -1 = PLACE
            heavy 0 0 0 = 32
            heavy 0 0 1 = 0
            heavy 0 0 2 = PLACE
            heavy 0 0 MIN = PLACE
            heavy 0 0 MAX = PLACE
            row 1 0 0
            heavy 0 1 0 = PLACE
            row 2 0 40
            heavy 0 2 38 = 0
            heavy 0 2 39 = PLACE
            """);
    }

    private static void who() {
        says("29 BAD: THING", """
            row 0 0 7
            who 0 0 0 0 = BAD
            laid e1,60,1;s1,5;t9,0;
            into 0 0 1
            who -1 0 0 0 = BAD
            who 2 0 0 0 = BAD
            who MIN 0 0 0 = BAD
            who MAX 0 0 0 = BAD
            who 0 0 0 0 = 1
            who 1 0 0 0 = 0
            """);
        says("29 BAD: which", """
            laid e1,60,1;s1,5;t9,0;
            into 0 0 1
            fill 0 0 1 0
            who 0 -1 0 0 = BAD
            who 0 2 0 0 = BAD
            who 0 MIN 0 0 = BAD
            who 0 MAX 0 0 = BAD
            who 0 0 0 0 = 1022
            who 0 1 0 0 = 16+32
            """);
        says("29 BAD: ROW", """
            laid e1,60,1;s1,5;t9,0;
            row 0 0 2
            row 7 0 2
            who 0 0 -1 0 = BAD
            who 0 0 8 0 = BAD
            who 0 0 MIN 0 = BAD
            who 0 0 MAX 0 = BAD
            who 0 0 0 0 = 1023
            who 0 1 7 0 = 62
            """);
        says("29 NULL, ahead of PLACE, behind BAD", """
            laid e1,60,1;t1,0;
            who 0 0 0 0 = NULL
            who 0 1 0 -1 = NULL
            who 1 0 0 0 = BAD
            who 0 2 0 0 = BAD
            """);
        says("29 PLACE", """
            laid e1,60,1;s1,5;t9,0;
            into 0 0 1
            fill 0 0 1 0 0
            who 0 0 0 -1 = PLACE
            who 0 0 0 0 = 1022
            who 0 0 0 1 = 1
            who 0 0 0 2 = PLACE
            who 0 1 0 2 = PLACE
            who 0 0 0 MIN = PLACE
            who 0 0 0 MAX = PLACE
            row 1 0 0
            who 0 0 1 0 = PLACE
            row 2 0 40
            who 0 0 2 38 = 1
            who 0 0 2 39 = PLACE
            """);
        says("29 PLACE: as many ITEMS as THINGS, seven", """
            laid e1,60,1;t1,0;t1,0;t1,0;t1,0;t1,0;t1,0;t1,0;
            row 0 0 7
            row 1 0 6
            who 6 1 0 0 = 62
            who 6 1 1 0 = PLACE
            """);
    }

    private static void colds() {
        says("30 BAD", """
            laid e1,60,1;c1,0;c1,0;
            into 0 0 1
            colds -1 = BAD
            colds 2 = BAD
            colds MIN = BAD
            colds MAX = BAD
            colds 0 = 1
            colds 1 = 1
            """);
        says("30 STATE: no SHOP (ahead of BAD)", """
            colds 0 = STATE
            colds 1 = STATE
            colds -1 = STATE
            colds 2 = STATE
            colds MIN = STATE
            colds MAX = STATE
            """);
        says("30 the first (NONE)", """
            laid e2,60,1;c1,0;c1,0;c1,0;
            colds 0 = 0
            colds 1 = NONE
            into 0 0
            into 1 1
            colds 1 = NONE
            into 1 2
            colds 0 = 1
            colds 1 = 12
            takeOut 1
            colds 1 = NONE
            """);
    }

    private static void tears() {
        String two = """
            laid e2,60,1;t1,0;t1,0;
            into 0 0
            into 1 1
            """;
        says("31 BAD: k (0 to 7)", two + """
            tears -1 1 0 = BAD
            tears 8 1 0 = BAD
            tears MIN 1 0 = BAD
            tears MAX 1 1 = BAD
            tears 0 1 0 = 1
            tears 7 1 0 = 0
            tears 7 1 1 = 1
            """);
        says("31 BAD: p (0 to 10)", two + """
            tears 1 -1 0 = BAD
            tears 1 11 0 = BAD
            tears 1 MIN 0 = BAD
            tears 1 MAX 1 = BAD
            tears 2 0 0 = 1
            tears 2 10 0 = 0
            tears 2 10 1 = 1
            """);
        says("31 BAD: what", two + """
            tears 1 1 -1 = BAD
            tears 1 1 2 = BAD
            tears 1 1 MIN = BAD
            tears 1 1 MAX = BAD
            tears 1 1 0 = 99
            tears 1 1 1 = 100
            """);
        says("31 STATE: no SHOP (ahead of BAD)", """
            tears 0 0 0 = STATE
            tears -1 0 0 = STATE
            tears 8 0 0 = STATE
            tears 0 -1 0 = STATE
            tears 0 11 0 = STATE
            tears 0 0 -1 = STATE
            tears 0 0 2 = STATE
            tears MIN MIN MIN = STATE
            tears MAX MAX MAX = STATE
            """);
        says("31 empty BAGS", """
            laid e3,60,1;t1,0;
            tears 0 10 0 = 1
            tears 0 10 1 = 1
            tears 1 0 0 = 0
            tears 1 0 1 = 1
            into 1 0
            tears 1 9 0 = 1
            tears 1 9 1 = 10
            """);
    }

    private static void drawn() {
        String seven = """
            shop e3,60,1;s1,9;s1,9;s1,9;s1,9;s1,9;s1,9;s1,9; = 7
            """;
        says("32 TRIPS of n BEEPS (0 to 60)", seven + """
            drawn -1 1 0 = BAD
            drawn 61 1 0 = BAD
            drawn MIN 1 0 = BAD
            drawn MAX 1 1 = BAD
            drawn 0 1 0 = 0
            drawn 0 1 1 = 0
            drawn 60 1 0 = 5
            drawn 60 1 1 = 7
            """);
        says("32 SEED (1 to 999999)", seven + """
            drawn 5 0 0 = BAD
            drawn 5 1000000 0 = BAD
            drawn 5 -1 0 = BAD
            drawn 5 MIN 0 = BAD
            drawn 5 MAX 1 = BAD
            drawn 5 1 0 = 3
            drawn 5 1 1 = 5
            drawn 5 999999 0 = 1
            drawn 5 999999 1 = 3
            drawn 7 999999 0 = 2
            drawn 10 999999 0 = 4
            drawn 10 999999 1 = 6
            """);
        says("32 BAD: what", seven + """
            drawn 5 1 -1 = BAD
            drawn 5 1 2 = BAD
            drawn 5 1 MIN = BAD
            drawn 5 1 MAX = BAD
            drawn 5 1 1 = 5
            """);
        says("32 STATE: no SHOP (ahead of BAD)", """
            drawn 1 1 0 = STATE
            drawn -1 1 0 = STATE
            drawn 61 1 0 = STATE
            drawn 1 0 0 = STATE
            drawn 1 1000000 0 = STATE
            drawn 1 1 -1 = STATE
            drawn 1 1 2 = STATE
            drawn MIN MIN MIN = STATE
            drawn MAX MAX MAX = STATE
            """);
    }

    private static void image() {
        says("33 BAD", """
            shop e1,60,1;t1,0; = 1
            image -1 = BAD
            image 2 = BAD
            image MIN = BAD
            image MAX = BAD
            restore 0 = STATE
            restore 1 = STATE
            image 0 = 1
            image 1 = 1
            """);
        says("33 STATE: no SHOP, behind BAD", """
            image 0 = STATE
            image 1 = STATE
            image -1 = BAD
            image 2 = BAD
            image MIN = BAD
            image MAX = BAD
            restore 0 = STATE
            """);
        says("33 it is kept of the SHOP as it is now, in place of an earlier one", """
            shop e1,60,1;t1,0;t2,0; = 2
            image 0 = 1
            beeps 1
            image 0 = 1
            beeps 1
            restore 0 = 1
            count 3 = 1
            stand 1 = 1
            """);
    }

    private static void restore() {
        says("34 BAD", """
            shop e1,60,1;t1,0; = 1
            image 0 = 1
            image 1 = 1
            beeps 1
            restore -1 = BAD
            restore 2 = BAD
            restore MIN = BAD
            restore MAX = BAD
            restore 0 = 1
            restore 1 = 1
            """);
        says("34 STATE: none was kept, behind BAD", """
            restore 0 = STATE
            restore 2 = BAD
            shop e1,60,1;t1,0; = 1
            restore 1 = STATE
            restore -1 = BAD
            image 1 = 1
            beeps 1
            restore 0 = STATE
            restore 1 = 1
            """);
        says("34 (no ACT can be undone then)", """
            shop e1,60,1;t1,0; = 1
            beeps 1
            image 0 = 1
            beeps 1
            restore 0 = 1
            count 6 = 0
            undo = STATE
            beeps 1
            undo = 0
            count 3 = 1
            """);
        says("34 The SHOP is as an IMAGE kept it: BEEP 999, all LAID BY, CRUSHED, WARM", """
            shop e1,60,40;c1,9;c1,9; = 2
            beeps 2
            layBy
            layBy
            into 0 0 1
            40* beeps 24
            beeps 24
            beeps 13
            count 3 = 999
            image 1 = 1
            takeOut 0
            takeOut 0
            shop e2,5,1;t1,0; = 1
            restore 1 = 1
            count 3 = 999
            beeps 1 = FULL
            stand 3 = 1
            stand 4 = 3
            bag 0 2 = 1
            bag 1 0 = BAD
            """);
        says("34 an IMAGE is kept yet, whatever is done then", """
            shop e1,60,1;s1,9;t1,0; = 2
            beeps 2
            pack 0 = 1
            image 0 = 1
            pack 0 = 0
            takeOut 0 = 0
            restore 0 = 1
            takeOut 0 = 1
            restore 0 = 1
            bag 0 1 = 2
            stand 1 = 1
            """);
    }

    // ---- asked

    private static void kind() {
        says("35 BAD", """
            kind 0 = BAD
            shop e1,60,1;t1,0;c1,0; = 2
            kind -1 = BAD
            kind 2 = BAD
            kind MIN = BAD
            kind MAX = BAD
            kind 0 = 1
            kind 1 = 5
            """);
        says("35 the last of seven", """
            shop e1,60,1;t1,0;t1,0;t1,0;t1,0;t1,0;t1,0;r1,0; = 7
            kind 6 = 3
            kind 7 = BAD
            """);
    }

    private static void as() {
        says("36 BAD: THING", """
            as 0 0 = BAD
            shop e1,60,1;t1,0;c1,0; = 2
            as -1 0 = BAD
            as 2 0 = BAD
            as MIN 0 = BAD
            as MAX 0 = BAD
            as 0 0 = 0
            as 1 0 = 1
            """);
        says("36 a KIND (0 .. 5)", """
            shop e1,60,1;t1,0;c1,0; = 2
            as 1 -1 = BAD
            as 1 6 = BAD
            as 1 MIN = BAD
            as 1 MAX = BAD
            as 1 0 = 1
            as 1 5 = 1
            """);
        says("36 KIND: it is no such one", """
            shop e1,60,1;t1,0;c1,0; = 2
            as 0 5 = KIND
            as 0 2 = KIND
            as 1 1 = KIND
            as 1 6 = BAD
            status = 3
            as 1 4 = 1
            status = 0
            """);
    }

    private static void ask() {
        says("37 BAD: THING", """
            ask 0 0 = BAD
            shop e1,60,1;t1,0;s3,0; = 2
            ask -1 0 = BAD
            ask 2 0 = BAD
            ask MIN 0 = BAD
            ask MAX 0 = BAD
            ask 0 0 = 1
            ask 1 0 = -97
            """);
        says("37 BAD: An ASK (0, 1)", """
            shop e1,60,1;t1,0;s3,0; = 2
            ask 1 1 = 98
            ask 1 -1 = BAD
            ask 1 2 = BAD
            ask 1 MIN = BAD
            ask 1 MAX = BAD
            trace 0 = 23
            ask 1 0 = -97
            """);
    }

    private static void trace() {
        says("38 NONE: no ask yet", """
            trace 0 = NONE
            trace -1 = NONE
            trace 15 = NONE
            trace MIN = NONE
            trace MAX = NONE
            """);
        says("38 NONE: below 0, behind the last one", """
            shop e1,60,1;t1,0;b1,0; = 2
            ask 1 0 = -3
            trace 0 = 12
            trace 5 = 20
            trace 6 = NONE
            trace -1 = NONE
            trace 15 = NONE
            trace 16 = NONE
            trace MIN = NONE
            trace MAX = NONE
            """);
    }

    private static void count() {
        says("39 BAD", """
            count -1 = BAD
            count 8 = BAD
            count MIN = BAD
            count MAX = BAD
            count 0 = 0
            count 7 = 0
            """);
        says("39 the most of each", """
            laid e3,60,1;s20,9;s20,9;s20,9;s20,9;s20,9;s20,9;s20,9;
            into 2 0 1 2 3 4 5 6
            row 0 0 40
            row 7 0 0
            40* beeps 24
            beeps 24
            beeps 8
            119* feed 'e'
            feed 'e' = 120
            count 0 = 2
            count 1 = 7
            count 2 = 3
            count 3 = 999
            count 4 = 6
            count 5 = 140
            count 6 = 24
            count 7 = 120
            """);
    }

    private static void status() {
        says("40 0: there was none", """
            status = 0
            shop e1,60,1;t1,0; = 1
            status = 0
            """);
        says("40 of the latest call with a ROW, or as()", """
            shop e1,60,1;t1,0; = 1
            drop 0 = NULL
            status = 1
            row 0 0 1 = 1
            status = 0
            set 0 1 0 = PLACE
            status = 2
            set 0 0 0 = 0
            status = 0
            as 0 2 = KIND
            status = 3
            as 0 1 = 0
            status = 0
            row 0 0 -1 = SIZE
            status = 4
            copy 0 0 0 0 1 = 1
            status = 0
            row 1 1 1 = 1
            copy 0 0 1 0 1 = STORE
            status = 5
            drop 1 = 1
            status = 0
            astray 0 1 = PLACE
            status = 2
            astray 0 0 = 128
            status = 0
            heavy 0 1 0 = NULL
            status = 1
            heavy 0 0 0 = 2097150
            status = 0
            who 0 0 0 -1 = PLACE
            status = 2
            who 0 0 0 0 = 1023
            status = 0
            """);
        says("40 that was not BAD, STATE, FULL", """
            row 0 0 1
            set 0 1 0 = PLACE
            astray 0 0 = STATE
            status = 2
            row 8 0 0 = BAD
            set 8 0 0 = BAD
            copy 8 0 0 0 0 = BAD
            drop 8 = BAD
            heavy 0 0 0 = BAD
            who 0 0 0 0 = BAD
            as 0 0 = BAD
            status = 2
            120* feed 'e'
            feed 'e' = FULL
            status = 2
            """);
        says("40 no other call, be it as it may", """
            shop e1,60,1;t1,0;t1,0; = 2
            row 0 0 1
            row 1 1 1
            copy 0 0 1 0 1 = STORE
            beeps 1
            pack 0 = 0
            takeOut 0 = 0
            putIn 0 0 = 0
            undo
            image 0 = 1
            restore 0 = 1
            least -1 = 0
            ask 0 0 = 1
            fault = 0
            count 9 = BAD
            swap = STATE
            tell e
            shop = -1000101
            status = 5
            """);
    }

    private EdgesTest() {
    }
}
