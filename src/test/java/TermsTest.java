/**
 * The document's "Terms" and its parts 1 to 4, sentence by sentence: each sentence that names an edge has
 * a run of its own, with the last number inside and the first one outside.
 */
public final class TermsTest {
    private static final Due DUE = new Due("terms");

    public static void main(String[] args) {
        cutTowardsZero();
        fractions();
        refusals();
        rows();
        tape();
        tokens();
        law();
        things();
        anotherShop();
        faults();
        everyPrefix();
        pressesAndBears();
        load();
        crushed();
        crushedStays();
        bagsTear();
        aBeep();
        warm();
        actsAreKept();
        actsAreUndone();
        ways();
        least();
        tornAndGive();
        order();
        topSpareBesideEven();
        weighed();
        broken();
        cold();
        tears();
        trips();
        kinds();
        asks();
        DUE.end();
    }

    private static void says(String sentence, String lines) {
        Script.says(DUE, sentence, lines);
    }

    // ---- Terms

    private static void cutTowardsZero() {
        says("All that is divided is cut towards 0: half of WEIGHT", """
            shop e1,60,1;r1,0;r2,0;r3,0;r10,0;r18,0;r19,0;r20,0; = 7
            thing 0 4 = 0
            thing 1 4 = 1
            thing 2 4 = 1
            thing 3 4 = 5
            thing 4 4 = 9
            thing 5 4 = 9
            thing 6 4 = 10
            """);
        says("All that is divided is cut towards 0: half of 9 less SOFT", """
            shop e1,60,1;c1,0;c1,1;c1,2;c1,6;c1,7;c1,8;c1,9; = 7
            thing 0 5 = 4
            thing 1 5 = 4
            thing 2 5 = 3
            thing 3 5 = 1
            thing 4 5 = 1
            thing 5 5 = 0
            thing 6 5 = 0
            """);
    }

    private static void fractions() {
        String threeBags = """
            laid e3,60,1;t1,0;t1,0;t1,0;
            into 0 0
            into 1 1
            into 2 2
            """;
        says("fractions, told as two numbers in lowest terms", threeBags + """
            tears 3 1 0 = 729
            tears 3 1 1 = 1000
            tears 3 2 0 = 64
            tears 3 2 1 = 125
            tears 3 3 0 = 343
            tears 3 3 1 = 1000
            tears 3 4 0 = 27
            tears 3 4 1 = 125
            tears 3 5 0 = 1
            tears 3 5 1 = 8
            tears 3 6 0 = 8
            tears 3 6 1 = 125
            tears 3 8 0 = 1
            tears 3 8 1 = 125
            tears 3 9 0 = 1
            tears 3 9 1 = 1000
            tears 2 5 0 = 1
            tears 2 5 1 = 2
            tears 1 5 0 = 7
            tears 1 5 1 = 8
            tears 1 1 0 = 999
            tears 1 1 1 = 1000
            """);
        says("what is certain is 1 by 1", threeBags + """
            tears 3 0 0 = 1
            tears 3 0 1 = 1
            tears 0 10 0 = 1
            tears 0 10 1 = 1
            """);
        says("(0 is 0 by 1)", threeBags + """
            tears 1 10 0 = 0
            tears 1 10 1 = 1
            tears 4 3 0 = 0
            tears 4 3 1 = 1
            tears 7 0 0 = 0
            tears 7 0 1 = 1
            """);
    }

    private static void refusals() {
        DUE.is("NONE", EggsLast.NONE, -1000000);
        DUE.is("BAD", EggsLast.BAD, -1000001);
        DUE.is("STATE", EggsLast.STATE, -1000002);
        DUE.is("FULL", EggsLast.FULL, -1000003);
        says("FINDINGS: -1000010 less 1 NULL, 2 PLACE, 3 KIND, 4 SIZE, 5 STORE", """
            drop 0 = -1000011
            row 0 0 1
            set 0 1 0 = -1000012
            shop e1,5,1;t1,0; = 1
            as 0 2 = -1000013
            row 0 0 -1 = -1000014
            row 1 1 1
            copy 0 0 1 0 1 = -1000015
            """);
        says("BAD comes first, ahead of STATE", """
            image 2 = BAD
            restore 2 = BAD
            shop e1,5,1;t1,0; = 1
            pack 1 = BAD
            takeOut 1 = BAD
            putIn 0 1 = BAD
            putIn 1 0 = BAD
            spare 1 = BAD
            restore -1 = BAD
            """);
        says("BAD comes first, ahead of FULL", """
            shop e1,5,1;t1,0; = 1
            120* feed 0
            feed 256 = BAD
            feed -1 = BAD
            feed 0 = FULL
            41* beeps 24
            beeps 15
            beeps 25 = BAD
            beeps 0 = BAD
            beeps 1 = FULL
            """);
        says("BAD comes first, ahead of FINDINGS", """
            shop e1,5,1;t1,0; = 1
            row 8 0 -1 = BAD
            row 0 3 -1 = BAD
            set 8 -1 0 = BAD
            copy 8 -1 1 -1 -1 = BAD
            copy 1 -1 8 -1 -1 = BAD
            astray 8 -1 = BAD
            heavy 1 0 -1 = BAD
            heavy 0 8 -1 = BAD
            who 1 0 0 -1 = BAD
            who 0 2 0 -1 = BAD
            who 0 0 8 -1 = BAD
            as 1 2 = BAD
            as 0 6 = BAD
            """);
        says("STATE: no SHOP comes ahead of BAD, where it is told", """
            beeps 0 = STATE
            pack -1 = STATE
            takeOut -1 = STATE
            stand -1 = STATE
            least -3 = STATE
            give -1 = STATE
            order -1 -2 = STATE
            astray -1 -1 = STATE
            colds -1 = STATE
            tears -1 -1 -1 = STATE
            drawn -1 0 -1 = STATE
            """);
        says("no such THING, no such BAG are BAD with no SHOP, where STATE is not told", """
            putIn 0 0 = BAD
            thing 0 0 = BAD
            bag 0 0 = BAD
            top 0 = BAD
            spare 0 = BAD
            beside 0 0 = BAD
            heavy 0 0 0 = BAD
            who 0 0 0 0 = BAD
            kind 0 = BAD
            as 0 0 = BAD
            ask 0 0 = BAD
            """);
        says("of several FINDINGS the first in time", """
            set 0 -1 0 = NULL
            row 0 0 2
            row 1 1 2
            copy 0 -1 2 -1 -1 = NULL
            copy 2 -1 0 -1 -1 = NULL
            copy 0 -1 1 -1 -1 = STORE
            shop e1,5,1;t1,0; = 1
            astray 2 -1 = NULL
            heavy 0 2 -1 = NULL
            who 0 0 2 -1 = NULL
            """);
    }

    // ---- part 1

    private static void rows() {
        says("ROWS 0 .. 7 are missing (at first)", """
            count 0 = 0
            drop 0 = NULL
            drop 1 = NULL
            drop 2 = NULL
            drop 3 = NULL
            drop 4 = NULL
            drop 5 = NULL
            drop 6 = NULL
            drop 7 = NULL
            drop 8 = BAD
            drop -1 = BAD
            """);
        says("a ROW has a LANE (0 bytes, 1 shorts, 2 ints)", """
            row 0 0 1 = 1
            row 1 1 1 = 1
            row 2 2 1 = 1
            row 3 3 1 = BAD
            row 3 -1 1 = BAD
            set 0 0 65793 = 1
            set 1 0 65793 = 257
            set 2 0 65793 = 65793
            """);
        says("a ROW has 0 to 40 ITEMS", """
            row 0 0 0 = 0
            row 1 1 1 = 1
            row 2 2 39 = 39
            row 3 0 40 = 40
            row 4 0 41 = BAD
            row 4 0 -1 = SIZE
            count 0 = 4
            set 0 0 1 = PLACE
            set 1 0 1 = 1
            set 1 1 1 = PLACE
            set 2 38 1 = 1
            set 2 39 1 = PLACE
            set 3 39 1 = 1
            set 3 40 1 = PLACE
            """);
        says("ITEMS are 0 at first", """
            shop e1,60,1;t1,0; = 1
            row 0 0 40
            row 1 1 40
            row 2 2 40
            astray 0 0 = 128
            astray 0 39 = 128
            astray 1 0 = 128
            astray 1 39 = 128
            astray 2 0 = 128
            astray 2 20 = 128
            astray 2 39 = 128
            """);
    }

    private static void tape() {
        says("THE TAPE has at most 120 bytes", """
            119* feed 'e'
            feed 'e' = 120
            feed 'e' = FULL
            count 7 = 120
            """);
        says("the longest text that can be: 59 bytes", """
            tell e03,60,40;t20,09;b20,09;r20,09;s20,09;c20,09;t20,09;t20,09;
            count 7 = 59
            shop = 7
            count 7 = 0
            """);
        says("the longest text, and more up to 120 bytes", """
            tell e03,60,40;t20,09;b20,09;r20,09;s20,09;c20,09;t20,09;t20,09;
            61* feed 't'
            feed 't' = FULL
            shop = -1000159
            fault = 3
            count 7 = 0
            feed 'e' = 1
            """);
    }

    private static void tokens() {
        text("letters a to z, each by itself: none but e at first", "a1,5,1;t1,0;", 0, 1);
        text("z at first", "z1,5,1;t1,0;", 0, 1);
        text("the byte ahead of a: `", "`1,5,1;t1,0;", 0, 1);
        text("the byte behind z: {", "{1,5,1;t1,0;", 0, 1);
        text("no great letters", "E1,5,1;t1,0;", 0, 1);
        text("no great letters for SORTS", "e1,5,1;T1,0;", 7, 1);
        text("two letters are two TOKENS", "ee1,5,1;t1,0;", 1, 1);
        text("a SORT that is none: a", "e1,5,1;a1,0;", 7, 1);
        text("a SORT that is none: e", "e1,5,1;e1,0;", 7, 1);
        text("a SORT that is none: z", "e1,5,1;z1,0;", 7, 1);
        text("the figures' neighbour below: /", "e/,5,1;t1,0;", 1, 1);
        text("the figures' neighbour above: :", "e:,5,1;t1,0;", 1, 1);
        text("the sign's neighbour: +", "e1+5,1;t1,0;", 2, 1);
        text("the sign's neighbour: -", "e1-5,1;t1,0;", 2, 1);
        text("the sign's neighbour: <", "e1,5,1<t1,0;", 6, 1);
        text("byte 0 is none", "\u0000", 0, 1);
        text("byte 255 is none", "\u00ff", 0, 1);
        text("a byte that is 't' and 128", "e1,5,1;\u00f41,0;", 7, 1);
        text("no space at first", " e1,5,1;t1,0;", 0, 1);
        text("no line end at last", "e1,5,1;t1,0;\n", 12, 1);
        text("the SIGNS are not swapped: law 1", "e1;5,1;t1,0;", 2, 1);
        text("the SIGNS are not swapped: law 2", "e1,5;1;t1,0;", 4, 1);
        text("the SIGNS are not swapped: law 3", "e1,5,1,t1,0;", 6, 1);
        text("the SIGNS are not swapped: thing 1", "e1,5,1;t1;0;", 9, 1);
        text("the SIGNS are not swapped: thing 2", "e1,5,1;t1,0,", 11, 1);
        text("no SIGN twice", "e1,,5,1;t1,0;", 3, 1);
        text("no SIGN between things", "e1,5,1;t1,0;;t1,0;", 12, 1);
    }

    private static void text(String sentence, String text, int place, int fault) {
        told(sentence, text, -1000100 - place, fault);
    }

    private static void told(String sentence, String text, int answer, int fault) {
        EggsLast x = new EggsLast();
        Due.tell(x, text);
        DUE.is(sentence + ": shop() of " + text, x.shop(), answer);
        DUE.is(sentence + ": fault() of " + text, x.fault(), fault);
        DUE.is(sentence + ": bytes on the tape", x.count(7), 0);
        DUE.is(sentence + ": THINGS", x.count(1), Math.max(answer, 0));
    }

    private static void law() {
        text("BAGS 1 to 3: 0", "e0,5,1;t1,0;", 1, 2);
        text("BAGS 1 to 3: 00", "e00,5,1;t1,0;", 1, 2);
        told("BAGS 1 to 3: 1", "e1,5,1;t1,0;", 1, 0);
        told("BAGS 1 to 3: 03", "e03,5,1;t1,0;", 1, 0);
        text("BAGS 1 to 3: 4", "e4,5,1;t1,0;", 1, 2);
        text("BAGS 1 to 3: 10", "e10,5,1;t1,0;", 1, 2);
        text("BAGS 1 to 3: 99", "e99,5,1;t1,0;", 1, 2);
        text("HOLDS 5 to 60: 0", "e1,0,1;t1,0;", 3, 2);
        text("HOLDS 5 to 60: 4", "e1,4,1;t1,0;", 3, 2);
        told("HOLDS 5 to 60: 05", "e1,05,1;t1,0;", 1, 0);
        told("HOLDS 5 to 60: 60", "e1,60,1;t1,0;", 1, 0);
        text("HOLDS 5 to 60: 61", "e1,61,1;t1,0;", 3, 2);
        text("HOLDS 5 to 60: 99", "e1,99,1;t1,0;", 3, 2);
        text("WARMTH 1 to 40: 0", "e1,5,0;t1,0;", 5, 2);
        text("WARMTH 1 to 40: 00", "e1,5,00;t1,0;", 5, 2);
        told("WARMTH 1 to 40: 01", "e1,5,01;t1,0;", 1, 0);
        told("WARMTH 1 to 40: 40", "e1,5,40;t1,0;", 1, 0);
        text("WARMTH 1 to 40: 41", "e1,5,41;t1,0;", 5, 2);
        text("WARMTH 1 to 40: 99", "e1,5,99;t1,0;", 5, 2);
        says("as many BAGS as told: 1", """
            shop e1,5,1;t1,0; = 1
            count 2 = 1
            bag 0 0 = 0
            bag 1 0 = BAD
            """);
        says("as many BAGS as told: 3", """
            shop e3,5,1;t1,0; = 1
            count 2 = 3
            bag 2 0 = 0
            bag 3 0 = BAD
            """);
    }

    private static void things() {
        String sorts = "tbrsc";
        for (int i = 0; i < sorts.length(); i++) {
            String ahead = "e1,5,1;" + sorts.charAt(i);
            text("WEIGHT 1 to 20: 0", ahead + "0,0;", 8, 2);
            told("WEIGHT 1 to 20: 01", ahead + "01,0;", 1, 0);
            told("WEIGHT 1 to 20: 20", ahead + "20,0;", 1, 0);
            text("WEIGHT 1 to 20: 21", ahead + "21,0;", 8, 2);
            told("SOFT 0 to 9: 00", ahead + "1,00;", 1, 0);
            told("SOFT 0 to 9: 9", ahead + "1,9;", 1, 0);
            text("SOFT 0 to 9: 10", ahead + "1,10;", 10, 2);
            text("SOFT 0 to 9: 99", ahead + "1,99;", 10, 2);
        }
        says("SORT: t, b, r, s, c", """
            shop e1,5,1;t1,0;b2,1;r3,2;s4,3;c5,4; = 5
            kind 0 = 1
            kind 1 = 2
            kind 2 = 3
            kind 3 = 4
            kind 4 = 5
            thing 0 0 = 1
            thing 4 0 = 5
            thing 0 1 = 0
            thing 4 1 = 4
            """);
        String six = "t1,0;t1,0;t1,0;t1,0;t1,0;t1,0;";
        text("law thing { thing }: not without a thing", "e1,5,1;", 7, 1);
        told("law thing { thing }: one", "e1,5,1;t1,0;", 1, 0);
        told("law thing { thing }: six", "e1,5,1;" + six, 6, 0);
        told("7 at most: seven", "e1,5,1;" + six + "c1,0;", 7, 0);
        text("7 at most: eight", "e1,5,1;" + six + "c1,0;c1,0;", 42, 3);
        text("law thing { thing }: a law at the end", "e1,5,1;t1,0;e1,5,1;", 12, 1);
        says("on the BELT in this order", """
            shop e1,5,1;t1,0;t2,0;t3,0;t4,0;t5,0;t6,0;t7,0; = 7
            stand 0 = 127
            stand 5 = 0
            beeps 1 = 6
            stand 5 = 1
            stand 6 = 0
            beeps 1 = 5
            stand 5 = 2
            beeps 1 = 4
            stand 5 = 3
            beeps 1 = 3
            stand 5 = 4
            beeps 1 = 2
            stand 5 = 5
            beeps 1 = 1
            stand 5 = 6
            stand 6 = 5
            beeps 1 = 0
            stand 5 = NONE
            stand 6 = 6
            """);
    }

    private static void anotherShop() {
        String usedShop = """
            shop e3,60,2;s1,9;t9,0;c1,0;t3,0;t2,0; = 5
            beeps 4
            layBy = 3
            pack 2 = 2
            layBy = 1
            pack 0 = 0
            putIn 1 0 = 9
            putIn 3 1 = 0
            takeOut 1 = 3
            stand 3 = 1
            """;
        says("none at first: no SHOP", """
            count 1 = 0
            count 2 = 0
            stand 0 = STATE
            """);
        says("a SHOP stands in place of the one before: BEEP 0, BAGS, the HEAP are empty", usedShop + """
            shop e2,5,1;c4,2;t1,0; = 2
            count 1 = 2
            count 2 = 2
            count 3 = 0
            count 5 = 0
            bag 0 1 = 0
            bag 1 1 = 0
            bag 2 1 = BAD
            stand 0 = 3
            stand 1 = 0
            thing 2 0 = BAD
            """);
        says("nothing is LAID BY, CRUSHED; no ACT can be undone", usedShop + """
            count 6 = 11
            shop e2,5,1;c4,2;t1,0; = 2
            stand 2 = 0
            stand 3 = 0
            stand 4 = 0
            count 4 = 0
            count 6 = 0
            undo = STATE
            thing 0 6 = 0
            """);
        says("BEEP 0, nothing is CRUSHED, though a trip was foretold ahead of it", usedShop + """
            drawn 60 1 0
            shop e2,5,1;c4,2;t1,0; = 2
            count 3 = 0
            count 4 = 0
            stand 1 = 0
            stand 3 = 0
            """);
        says("BEEP 0, nothing is CRUSHED, though it was asked of THINGS ahead of it", usedShop + """
            row 0 0 5
            who 0 1 0 0
            shop e2,5,1;c4,2;t1,0; = 2
            count 3 = 0
            count 4 = 0
            stand 1 = 0
            """);
        says("the same text again is another SHOP", """
            shop e1,5,1;c4,2; = 1
            beeps 1
            pack 0
            shop e1,5,1;c4,2; = 1
            thing 0 2 = 0
            thing 0 7 = 0
            """);
        says("a FAULT: the SHOP of before stands yet", usedShop + """
            tell e1,5,1;t1,0
            shop = -1000111
            count 2 = 3
            count 3 = 4
            count 6 = 11
            stand 2 = 8
            stand 3 = 1
            """);
    }

    private static void faults() {
        String seven = "e1,5,1;t1,0;b1,0;r1,0;s1,0;c1,0;t1,0;t1,0;";
        text("the first TOKEN that has a FAULT, not a later one", "e0,99,0;q", 1, 2);
        text("the first TOKEN that has a FAULT, though a later one is worse", "e1,5,41;q0", 5, 2);
        text("1 it cannot stand there: a NUMBER", "1e", 0, 1);
        text("1 it cannot stand there: a SIGN", ";e1,5,1;t1,0;", 0, 1);
        text("of one TOKEN the least: a NUMBER that cannot stand there, nor is as told", "e1,5,1;99", 7, 1);
        text("a NUMBER of two figures has its first byte's place", "e1,5,1;t1,0;t1,44;", 15, 2);
        text("a run of three figures, at its first", "e123,5,1;t1,0;", 1, 1);
        text("a run of three figures, though it were as told", "e001,5,1;t1,0;", 1, 1);
        text("a run of three figures at the end", "e1,005", 3, 1);
        text("a run of three figures for SOFT", "e1,5,1;t1,000;", 10, 1);
        text("a run of three figures where none can stand", "123", 0, 1);
        text("a run of four figures", "e1,5,1;t0001,0;", 8, 1);
        text("a run of two figures is a NUMBER", "e1,61", 3, 2);
        text("the end: how many bytes there are: none", "", 0, 1);
        text("the end behind seven things and a half", seven.substring(0, 41), 41, 1);
        text("2 a NUMBER that is not as told, at the end", "e4", 1, 2);
        text("3 a thing more: its letter t", seven + "t1,0;", 42, 3);
        text("3 a thing more: its letter b", seven + "b", 42, 3);
        text("3 a thing more: its letter r", seven + "r99", 42, 3);
        text("3 a thing more: its letter s", seven + "ss", 42, 3);
        text("3 a thing more: its letter c", seven + "c!", 42, 3);
        text("no thing more, but a letter that is no SORT", seven + "e", 42, 1);
        text("no thing more, but a NUMBER", seven + "99", 42, 1);
        text("no thing more, but a SIGN", seven + ",", 42, 1);
        says("the number of a FAULT is told until the next one", """
            shop e1,5,1;t1,0;b1,0;r1,0;s1,0;c1,0;t1,0;t1,0;t = -1000142
            fault = 3
            shop e4 = -1000101
            fault = 2
            shop = -1000100
            fault = 1
            """);
    }

    /** A text that is cut off anywhere has its FAULT at the end, whose place is how many bytes there are. */
    private static void everyPrefix() {
        String text = "e3,60,40;t20,09;b1,0;";
        for (int length = 0; length < text.length(); length++) {
            boolean whole = length == 16;
            told("cut off behind " + length, text.substring(0, length), whole ? 1 : -1000100 - length, whole ? 0 : 1);
        }
        told("not cut off", text, 2, 0);
        EggsLast x = new EggsLast();
        for (int length = 0; length < 16; length++) {
            Due.tell(x, text);
            DUE.is("a whole text", x.shop(), 2);
            Due.tell(x, text.substring(0, length));
            DUE.is("cut off behind " + length + ", where an earlier text went on", x.shop(), -1000100 - length);
        }
    }

    // ---- part 2

    private static void pressesAndBears() {
        says("It PRESSES: the least WEIGHT", """
            shop e1,60,1;t1,9;b1,9;r1,9;s1,9;c1,9; = 5
            thing 0 4 = 1
            thing 1 4 = 3
            thing 2 4 = 0
            thing 3 4 = 1
            thing 4 4 = 2
            """);
        says("It PRESSES: the greatest WEIGHT", """
            shop e1,60,1;t20,0;b20,0;r20,0;s20,0;c20,0; = 5
            thing 0 4 = 20
            thing 1 4 = 22
            thing 2 4 = 10
            thing 3 4 = 1
            thing 4 4 = 2
            """);
        says("It BEARS: the least SOFT", """
            shop e1,60,1;t1,0;b1,0;r1,0;s1,0;c1,0; = 5
            thing 0 5 = 60
            thing 1 5 = 20
            thing 2 5 = 9
            thing 3 5 = 9
            thing 4 5 = 4
            """);
        says("It BEARS: the greatest SOFT", """
            shop e1,60,1;t20,9;b20,9;r20,9;s20,9;c20,9; = 5
            thing 0 5 = 60
            thing 1 5 = 20
            thing 2 5 = 9
            thing 3 5 = 0
            thing 4 5 = 0
            """);
    }

    private static void load() {
        says("LOAD on a THING in a BAG: all that lie above it in the BAG; else 0", """
            shop e2,60,1;t9,0;b5,0;r7,0;t4,0;s1,0; = 5
            thing 0 3 = 0
            beeps 4
            thing 0 3 = 0
            layBy = 3
            layBy = 2
            thing 2 3 = 0
            pack 1 = 1
            putIn 2 1 = 3
            pack 1 = 0
            thing 1 3 = 12
            thing 2 3 = 9
            thing 0 3 = 0
            putIn 3 0 = 0
            thing 1 3 = 12
            thing 3 3 = 0
            """);
        says("on the HEAP it crushes nothing", """
            shop e1,60,1;s1,9;t20,0; = 2
            beeps 2
            stand 3 = 0
            thing 0 3 = 0
            """);
        says("LAID BY it crushes nothing", """
            laid e1,60,1;s1,9;t20,0;
            stand 3 = 0
            thing 0 3 = 0
            """);
        says("a full BAG: all that PRESS by, together", """
            laid e1,60,1;t20,0;b20,0;r20,0;s20,0;c20,0;t20,0;t20,0;
            into 0 0 1 2 3 4 5 6
            bag 0 0 = 140
            bag 0 1 = 127
            thing 0 3 = 75
            thing 1 3 = 53
            thing 2 3 = 43
            thing 3 3 = 42
            thing 4 3 = 40
            thing 5 3 = 20
            thing 6 3 = 0
            stand 3 = 1+2+4+8+16
            """);
    }

    private static void crushed() {
        says("CRUSHED, as soon as its LOAD is more than it BEARS: a tin, 60 and 61", """
            laid e1,60,1;t1,0;t20,0;t20,0;t20,0;s1,0;
            into 0 0 1 2 3
            thing 0 3 = 60
            thing 0 6 = 0
            spare 0 = 0
            putIn 4 0 = 1
            thing 0 3 = 61
            thing 0 6 = 1
            stand 3 = 1
            """);
        says("CRUSHED: a bottle, 20 and 21", """
            laid e1,60,1;b1,0;t20,0;s1,0;
            into 0 0 1
            thing 0 3 = 20
            thing 0 6 = 0
            into 0 2
            thing 0 3 = 21
            thing 0 6 = 1
            """);
        says("CRUSHED: one that rolls, 9 and 10", """
            laid e1,60,1;r1,0;t9,0;s1,0;
            into 0 0 1
            thing 0 3 = 9
            thing 0 6 = 0
            into 0 2
            thing 0 3 = 10
            thing 0 6 = 1
            """);
        says("CRUSHED: a soft one of SOFT 0, 9 and 10", """
            laid e1,60,1;s1,0;t9,0;s1,0;
            into 0 0 1
            thing 0 6 = 0
            into 0 2
            thing 0 6 = 1
            """);
        says("CRUSHED: a soft one of SOFT 9, 0 and 1", """
            laid e1,60,1;s1,9;r1,0;s1,0;
            into 0 0 1
            thing 0 3 = 0
            thing 0 6 = 0
            into 0 2
            thing 0 3 = 1
            thing 0 6 = 1
            """);
        says("CRUSHED: a cold one of SOFT 0, 4 and 5", """
            laid e1,60,1;c1,0;t4,0;s1,0;
            into 0 0 1
            thing 0 6 = 0
            into 0 2
            thing 0 6 = 1
            """);
        says("CRUSHED: a cold one of SOFT 8, 0 and 1", """
            laid e1,60,1;c1,8;r1,0;s1,0;
            into 0 0 1
            thing 0 6 = 0
            into 0 2
            thing 0 6 = 1
            """);
        says("nothing is CRUSHED but what lies below", """
            laid e2,60,1;s1,9;s1,9;s1,9;
            into 0 0
            into 1 1
            stand 3 = 0
            into 0 2
            stand 3 = 1
            """);
    }

    private static void crushedStays() {
        String crushed = """
            laid e2,60,1;s1,9;s1,0;
            into 0 0 1
            thing 0 6 = 1
            takeOut 0 = 1
            """;
        says("CRUSHED, and stays so: without LOAD", crushed + """
            thing 0 3 = 0
            thing 0 6 = 1
            """);
        says("CRUSHED, and stays so: LAID BY", crushed + """
            takeOut 0 = 0
            thing 0 6 = 1
            count 4 = 1
            """);
        says("CRUSHED, and stays so: in another BAG", crushed + """
            takeOut 0 = 0
            into 1 0
            thing 0 6 = 1
            stand 3 = 1
            """);
    }

    private static void bagsTear() {
        says("A BAG weighs as much as all that is in it; it TEARS, if that is more than HOLDS: 5", """
            laid e2,5,1;t4,0;c1,0;s1,0;
            bag 0 0 = 0
            bag 0 3 = 0
            into 0 0 1
            bag 0 0 = 5
            bag 0 3 = 0
            into 0 2
            bag 0 0 = 6
            bag 0 3 = 1
            bag 1 3 = 0
            takeOut 0 = 2
            bag 0 3 = 0
            """);
        says("it TEARS, if that is more than HOLDS: 60", """
            laid e1,60,1;t20,0;t20,0;t20,0;s1,0;
            into 0 0 1 2
            bag 0 0 = 60
            bag 0 3 = 0
            into 0 3
            bag 0 0 = 61
            bag 0 3 = 1
            """);
    }

    private static void aBeep() {
        says("A BEEP: the first THING goes onto the HEAP (if there is one); BEEP is 1 more", """
            shop e1,60,1;t1,0; = 1
            count 3 = 0
            beeps 1 = 0
            count 3 = 1
            stand 1 = 1
            beeps 1 = 0
            count 3 = 2
            stand 1 = 1
            count 6 = 2
            """);
    }

    private static void warm() {
        says("WARM, if WARMTH or more BEEPS are over: WARMTH 1, by the BEEP itself", """
            shop e1,60,1;c1,0;c1,0; = 2
            thing 0 7 = 0
            stand 4 = 0
            beeps 1
            thing 0 7 = 1
            thing 1 7 = 0
            stand 4 = 1
            beeps 1
            stand 4 = 3
            """);
        says("WARM, WARMTH 2: that by which it came counted", """
            shop e1,60,2;c1,0;c1,0; = 2
            beeps 1
            stand 4 = 0
            beeps 1
            stand 4 = 1
            beeps 1
            stand 4 = 3
            """);
        says("WARM, WARMTH 40: not behind 39", """
            shop e1,60,40;t1,0;c1,0; = 2
            beeps 1
            beeps 24
            beeps 15
            thing 1 7 = 0
            stand 4 = 0
            beeps 1
            thing 1 7 = 1
            stand 4 = 2
            undo
            stand 4 = 0
            """);
        says("A cold THING that is not on the BELT: LAID BY, in a BAG it goes on", """
            shop e1,60,3;c1,0;c1,0;c1,0; = 3
            beeps 2
            layBy = 1
            pack 0 = 0
            beeps 1
            stand 4 = 1
            beeps 1
            stand 4 = 3
            takeOut 0 = 0
            putIn 1 0 = 0
            stand 4 = 3
            beeps 1
            stand 4 = 7
            """);
        says("a cold THING on the BELT is not WARM, however many BEEPS are over", """
            shop e1,60,1;c1,0;c1,0;c1,0; = 3
            swap = 1
            beeps 1
            stand 4 = 2
            """);
        says("nothing but a cold THING is WARM", """
            shop e1,60,1;t1,0;b1,0;r1,0;s1,0; = 4
            beeps 24
            stand 4 = 0
            thing 3 7 = 0
            """);
        says("WARM goes by when each came onto the HEAP, as an IMAGE kept it", """
            shop e1,60,2;c1,0;c1,0; = 2
            beeps 2
            stand 4 = 1
            image 0 = 1
            undo = 1
            undo = 0
            swap = 1
            beeps 2
            stand 4 = 2
            restore 0 = 1
            stand 4 = 1
            beeps 1
            stand 4 = 3
            """);
    }

    private static void actsAreKept() {
        says("24 at most are kept: the 24th", """
            shop e1,60,1;t1,0; = 1
            beeps 23
            count 6 = 23
            beeps 1
            count 6 = 24
            23* undo
            count 3 = 1
            undo = 0
            count 3 = 0
            undo = STATE
            """);
        says("of more the oldest is forgotten: the 25th", """
            shop e1,60,1;t1,0; = 1
            beeps 24
            beeps 1
            count 6 = 24
            undo = 23
            23* undo
            undo = STATE
            count 3 = 1
            stand 1 = 1
            """);
        says("of more the oldest is forgotten: all of them once and again", """
            shop e1,60,1;t1,0;t2,0; = 2
            swap = 1
            swap = 0
            swap = 1
            beeps 24
            beeps 24
            beeps 1
            count 6 = 24
            24* undo
            undo = STATE
            count 3 = 25
            stand 1 = 3
            stand 6 = 0
            """);
        says("what is undone makes room", """
            shop e1,60,1;t1,0;t2,0; = 2
            beeps 24
            undo = 23
            swap = STATE
            beeps 1
            count 6 = 24
            24* undo
            count 3 = 0
            stand 0 = 3
            stand 5 = 0
            """);
        says("acts of several sorts, the oldest forgotten, undone, done and undone again", """
            shop e2,60,1;s1,9;t2,0;t3,0; = 3
            swap = 1
            beeps 3
            pack 0 = 2
            pack 1 = 0
            pack 1 = 1
            stand 3 = 1
            takeOut 1 = 1
            putIn 1 0 = 2
            beeps 20
            count 6 = 24
            20* undo
            undo = 3
            thing 1 2 = 2
            undo = 2
            bag 1 2 = 1
            stand 3 = 1
            undo = 1
            stand 3 = 0
            stand 6 = 1
            layBy = 1
            count 6 = 2
            undo = 1
            undo = 0
            stand 6 = 0
            undo = STATE
            bag 0 2 = 2
            """);
    }

    private static void actsAreUndone() {
        says("each can be undone: a BEEP", """
            shop e1,60,1;c1,0;t2,0;t3,0; = 3
            beeps 1
            stand 4 = 1
            undo = 0
            count 3 = 0
            stand 0 = 7
            stand 1 = 0
            stand 4 = 0
            stand 5 = 0
            """);
        says("each can be undone: a BEEP, the BELT is in its order again", """
            shop e1,60,1;t1,0;t2,0;t3,0;t4,0; = 4
            beeps 2
            undo = 1
            stand 5 = 1
            stand 6 = 0
            beeps 1
            stand 5 = 2
            beeps 1
            stand 5 = 3
            undo = 2
            undo = 1
            undo = 0
            stand 5 = 0
            swap = 1
            """);
        says("each can be undone: a BEEP of an empty BELT", """
            shop e1,60,1;t1,0; = 1
            beeps 2
            undo = 1
            count 3 = 1
            stand 1 = 1
            """);
        says("each can be undone: the top of the HEAP is packed", """
            shop e1,60,1;s1,9;t2,0; = 2
            beeps 1
            pack 0 = 0
            beeps 1
            pack 0 = 1
            thing 0 6 = 1
            undo = 3
            thing 0 6 = 0
            thing 0 3 = 0
            stand 6 = 1
            bag 0 2 = 0
            count 3 = 2
            """);
        says("each can be undone: an ACT beside the BELT leaves the BELT and BEEP", """
            shop e1,60,1;t1,0;t2,0;t3,0;t4,0; = 4
            beeps 2
            pack 0 = 1
            undo = 2
            stand 5 = 2
            count 3 = 2
            layBy = 1
            undo = 2
            stand 5 = 2
            count 3 = 2
            layBy = 1
            putIn 1 0 = 0
            undo = 3
            stand 5 = 2
            putIn 1 0 = 0
            takeOut 0 = 1
            undo = 4
            stand 5 = 2
            count 3 = 2
            beeps 1
            stand 6 = 2
            """);
        says("each can be undone: it is LAID BY", """
            shop e1,60,1;s1,9;t2,0; = 2
            beeps 2
            layBy = 1
            undo = 2
            stand 2 = 0
            stand 6 = 1
            thing 1 2 = 1
            """);
        says("each can be undone: a THING that is LAID BY is packed", """
            laid e1,60,1;s1,9;t2,0;
            into 0 0
            putIn 1 0 = 2
            thing 0 6 = 1
            undo
            thing 0 6 = 0
            stand 2 = 2
            bag 0 1 = 1
            """);
        says("each can be undone: the top of a BAG is LAID BY", """
            laid e1,60,1;s1,9;t2,0;
            into 0 0 1
            takeOut 0 = 1
            undo
            stand 2 = 0
            bag 0 2 = 1
            thing 0 3 = 2
            thing 0 6 = 1
            beside 0 1 = 2
            """);
        says("each can be undone: the first two THINGS on the BELT are swapped", """
            shop e1,60,1;t1,0;t2,0;t3,0; = 3
            swap = 1
            undo = 0
            count 3 = 0
            stand 5 = 0
            beeps 1
            stand 5 = 1
            beeps 1
            stand 5 = 2
            undo = 1
            undo = 0
            beeps 1
            swap = 2
            undo = 1
            count 3 = 1
            stand 5 = 1
            """);
        says("the latest first", """
            shop e1,60,1;t1,0;t2,0; = 2
            beeps 2
            layBy = 1
            pack 0 = 0
            undo = 3
            thing 0 2 = 1
            thing 1 2 = 2
            undo = 2
            thing 1 2 = 1
            stand 6 = 1
            """);
    }

    // ---- part 3

    private static void ways() {
        says("A WAY packs all on the HEAP, from its top on", """
            shop e1,60,1;s1,9;t2,0; = 2
            beeps 2
            least -1 = 0
            """);
        says("then all that are LAID BY, by numbers, whatever was LAID BY first", """
            laid e1,60,1;t2,0;s1,9;
            least -1 = 0
            """);
        says("by numbers: the lesser one lies below", """
            laid e1,60,1;s1,9;t2,0;
            least -1 = 1
            """);
        says("LAID BY behind the HEAP", """
            shop e1,60,1;t2,0;s1,9; = 2
            beeps 1
            layBy = 0
            beeps 1
            least -1 = 1
            """);
        says("then all on the BELT, in their order", """
            shop e1,60,1;s1,9;t2,0; = 2
            least -1 = 1
            swap = 1
            least -1 = 0
            """);
        says("the BELT behind the HEAP and what is LAID BY", """
            shop e1,60,1;t2,0;t2,0;s1,9; = 3
            beeps 2
            layBy = 1
            least -1 = 0
            """);
    }

    private static void least() {
        says("LEAST with nothing to be packed", """
            laid e2,60,1;t7,0;s1,9;
            into 0 0 1
            least -1 = 0
            least -2 = 8
            least 0 = NONE
            least 1 = NONE
            """);
        says("of several that by which the heaviest BAG weighs least", """
            shop e2,60,1;t6,0;t5,0;t4,0; = 3
            least -1 = 0
            least -2 = 9
            least 0 = 0
            least 1 = 1
            least 2 = 1
            """);
        says("fewest come ahead of the heaviest BAG", """
            shop e2,60,1;s1,9;t20,0;t20,0; = 3
            least -1 = 0
            least -2 = 40
            least 0 = 0
            least 1 = 1
            least 2 = 1
            """);
        says("fewest come ahead of the heaviest BAG, though a later WAY is lighter", """
            laid e2,60,1;s1,9;t5,0;t5,0;
            into 1 0
            least -1 = 0
            least -2 = 10
            least 1 = 0
            least 2 = 0
            """);
        says("fewest come first, though a later WAY is as heavy", """
            laid e2,60,1;s1,9;t5,0;t6,0;
            into 1 0
            least -1 = 0
            least -2 = 11
            least 1 = 0
            least 2 = 0
            """);
        says("of several the first (by BAGS, in the order in which they are packed)", """
            shop e3,60,1;t5,0;t5,0; = 2
            least 0 = 0
            least 1 = 1
            beeps 2
            least 1 = 0
            least 0 = 1
            """);
        says("what is in the BAGS already weighs, too", """
            laid e2,60,1;t20,0;t5,0;
            into 0 0
            least -2 = 20
            least 1 = 1
            """);
        says("the heaviest BAG is the one that is heavy now, whatever is packed", """
            laid e2,60,1;t20,0;t5,0;
            into 1 0
            least -2 = 20
            least 1 = 0
            """);
        says("fewest THINGS (those that are now, too): LAID BY, too", """
            laid e2,60,1;s1,9;s1,9;
            into 0 0 1
            takeOut 0 = 1
            takeOut 0 = 0
            least -1 = 1
            least -2 = 1
            """);
        says("seven THINGS, one BAG", """
            shop e1,60,1;s1,9;s1,9;s1,9;s1,9;s1,9;s1,9;s1,9; = 7
            least -1 = 6
            least -2 = 7
            least 6 = 0
            """);
        says("seven THINGS, three BAGS", """
            shop e3,60,1;s1,9;s1,9;s1,9;s1,9;s1,9;s1,9;s1,9; = 7
            least -1 = 4
            least -2 = 3
            least 0 = 0
            least 1 = 0
            least 2 = 0
            least 3 = 1
            least 4 = 1
            least 5 = 1
            least 6 = 2
            """);
        says("LEAST: what is in a BAG bears what is packed on it: just so much, and one more", """
            laid e2,60,1;s1,5;t2,0;t2,0;s1,0;t20,0;
            into 0 0 1
            into 1 4
            least -1 = 0
            least -2 = 21
            least 2 = 0
            least 3 = 1
            into 0 2
            least -1 = 0
            least 3 = 1
            """);
        says("LEAST: what is CRUSHED already is not CRUSHED twice", """
            laid e1,60,1;s1,9;t1,0;t1,0;s1,9;t1,0;
            into 0 0 1
            least -1 = 2
            """);
        says("LEAST: all are CRUSHED now: seven", allCrushed() + """
            least -1 = 7
            least -2 = 3
            least 0 = 0
            least 3 = 1
            least 6 = 2
            """);
    }

    /** Seven THINGS LAID BY, each of which was CRUSHED by the next one, and the last by the first. */
    private static String allCrushed() {
        StringBuilder lines = new StringBuilder("laid e3,60,1;s1,9;s1,9;s1,9;s1,9;s1,9;s1,9;s1,9;\n");
        for (int thing = 0; thing < 7; thing++) {
            lines.append("into 0 ").append(thing).append(' ').append((thing + 1) % 7).append('\n');
            lines.append("2* takeOut 0\n");
        }
        return lines.toString();
    }

    private static void tornAndGive() {
        says("TORN: just what they HOLD", """
            shop e2,5,1;t5,0;t4,0;t1,0; = 3
            torn = 0
            """);
        says("TORN: one more than they HOLD", """
            shop e2,5,1;t5,0;t4,0;t2,0; = 3
            torn = 1
            """);
        says("TORN: all in one that TEARS", """
            shop e3,5,1;t20,0;t20,0;t20,0;t20,0;t20,0;t20,0;t20,0; = 7
            torn = 1
            """);
        says("TORN: nothing to be packed, empty BAGS and full ones", """
            laid e3,5,1;t6,0;t6,0;t6,0;
            into 0 0
            into 1 1
            into 2 2
            torn = 3
            takeOut 2
            torn = 2
            """);
        says("GIVE: NONE: nothing is to be packed", """
            laid e1,60,1;s1,9;t2,0;
            into 0 0 1
            give 0 = NONE
            give 1 = NONE
            takeOut 0 = 1
            give 0 = 1
            give 1 = 1
            """);
        says("GIVE: the only one", """
            shop e1,60,1;s1,9; = 1
            give 0 = 0
            give 1 = 0
            """);
        says("GIVE: of several the first, the greatest number if it is the only one", """
            shop e1,60,1;s1,8;s1,8;t20,0; = 3
            give 0 = 2
            give 1 = 0
            """);
        says("GIVE: of several the first: nothing is CRUSHED whatever is left", """
            shop e1,60,1;t1,0;t1,0;t1,0;t1,0;t1,0;t1,0;t1,0; = 7
            beeps 7
            give 0 = 0
            give 1 = 0
            """);
        says("GIVE: none that is in a BAG, be it the first or another", """
            laid e3,60,1;t1,0;t1,0;t1,0;t1,0;
            into 1 0
            give 0 = 1
            into 2 1
            give 0 = 2
            into 0 2
            give 0 = 3
            """);
        says("GIVE: all are CRUSHED now: which, how many", allCrushed() + """
            give 0 = 0
            give 1 = 7
            """);
    }

    private static void order() {
        says("ORDER: an empty BELT", """
            laid e1,60,1;s1,9;s1,9;
            into 0 0 1
            order 0 -1 = 1
            order 0 0 = NONE
            """);
        says("ORDER: one on the BELT", """
            shop e1,60,1;s1,9; = 1
            order 0 -1 = 0
            order 0 0 = 0
            order 0 1 = NONE
            """);
        says("ORDER: a full BELT, of several the first (by numbers)", """
            shop e1,60,1;s1,9;t20,0;r2,0;t20,0;b1,0;s1,0;c1,0; = 7
            order 0 -1 = 0
            order 0 0 = 1
            order 0 1 = 3
            order 0 2 = 2
            order 0 3 = 4
            order 0 4 = 5
            order 0 5 = 6
            order 0 6 = 0
            order 0 7 = NONE
            """);
        says("ORDER: one is CRUSHED whatever the order, so it may as well lie at the bottom", """
            shop e1,60,1;s1,9;t20,0;s1,9; = 3
            order 0 -1 = 1
            order 0 0 = 0
            order 0 1 = 1
            order 0 2 = 2
            """);
        says("ORDER: all as good, by numbers, though the BELT is swapped", """
            shop e1,60,1;t1,0;t1,0;t1,0; = 3
            swap = 1
            order 0 -1 = 0
            order 0 0 = 0
            order 0 1 = 1
            order 0 2 = 2
            """);
        says("ORDER: only what is on the BELT, packed straight into this BAG", """
            shop e2,60,1;s1,5;t2,0;t2,0;t1,0; = 4
            beeps 2
            layBy = 1
            pack 0 = 0
            order 0 -1 = 0
            order 1 -1 = 0
            putIn 1 0 = 2
            order 0 -1 = 1
            order 1 -1 = 0
            order 0 0 = 2
            order 0 1 = 3
            order 0 2 = NONE
            """);
        says("ORDER: just as much as it BEARS, and one more", """
            shop e1,60,1;s1,5;t4,0; = 2
            order 0 -1 = 0
            order 0 0 = 0
            shop e1,60,1;s1,5;t5,0; = 2
            order 0 -1 = 0
            order 0 0 = 1
            """);
        says("ORDER: only this BAG's THINGS are crushed: each of three", """
            shop e3,60,1;s1,9;s1,8;s1,0;t2,0; = 4
            beeps 3
            pack 2 = 2
            pack 1 = 1
            pack 0 = 0
            order 0 -1 = 1
            order 1 -1 = 1
            order 2 -1 = 0
            """);
        says("ORDER: those CRUSHED now in this BAG are not CRUSHED twice", """
            shop e2,60,1;s1,9;t2,0;t2,0; = 3
            beeps 2
            layBy = 1
            pack 1 = 0
            putIn 1 1 = 2
            order 1 -1 = 1
            order 0 -1 = 1
            """);
    }

    private static void topSpareBesideEven() {
        says("TOP: on an empty BAG all that is in none", """
            shop e2,60,1;t20,0;b20,0;t20,0;t20,0; = 4
            beeps 3
            layBy = 2
            pack 0 = 1
            top 1 = 1+4+8
            """);
        says("TOP: nothing left, nothing on top", """
            laid e1,60,1;t1,0;
            into 0 0
            top 0 = 0
            """);
        says("TOP: as much as it bears yet, and one more", """
            laid e1,60,1;b1,0;t13,0;t7,0;t8,0;b5,0;b6,0;
            into 0 0 1
            spare 0 = 7
            top 0 = 4+16
            """);
        says("TOP: crush nothing that is not CRUSHED", """
            laid e1,60,1;s1,9;t1,0;t20,0;
            into 0 0 1
            stand 3 = 1
            top 0 = 4
            """);
        says("TOP: of each BAG what lies in it, nothing that is in another BAG", """
            laid e3,60,1;s1,9;s1,7;s1,0;t2,0;t9,0;t10,0;
            into 0 0
            into 1 1
            into 2 2
            top 0 = 0
            top 1 = 8
            top 2 = 8+16
            """);
        says("TOP: of each BAG what lies in it, be the next BAG as soft as it may", """
            laid e3,60,1;s1,9;s1,7;s1,0;t2,0;t9,0;t10,0;
            into 0 2
            into 1 1
            into 2 0
            top 0 = 8+16
            top 1 = 8
            top 2 = 0
            """);
        says("SPARE (0: none; CRUSHED: 0)", """
            laid e1,60,1;s1,7;s1,0;s1,0;s1,0;
            into 0 0
            spare 0 = 2
            into 0 1
            spare 0 = 1
            into 0 2
            spare 0 = 0
            thing 0 6 = 0
            into 0 3
            spare 0 = 0
            takeOut 0
            takeOut 0
            takeOut 0
            spare 0 = 0
            """);
        says("SPARE: the most, 60", """
            laid e1,60,1;t1,0;
            into 0 0
            spare 0 = 60
            """);
        says("SPARE: in each BAG", """
            laid e3,60,1;s1,9;s1,7;s1,0;
            into 0 2
            into 1 1
            into 2 0
            spare 0 = 0
            spare 1 = 2
            spare 2 = 9
            """);
        says("ABOVE, BELOW: in the BAG of a THING, a full one", """
            laid e1,60,1;t1,0;t1,0;t1,0;t1,0;t1,0;t1,0;t1,0;
            into 0 6 5 4 3 2 1 0
            beside 6 1 = 63
            beside 6 0 = 0
            beside 3 1 = 7
            beside 3 0 = 112
            beside 0 1 = 0
            beside 0 0 = 126
            """);
        says("ABOVE, BELOW: in each BAG", """
            laid e3,60,1;t1,0;t1,0;t1,0;t1,0;t1,0;t1,0;
            into 0 0 1
            into 1 3 2
            into 2 4 5
            beside 0 1 = 2
            beside 2 0 = 8
            beside 3 1 = 4
            beside 4 1 = 32
            beside 5 0 = 16
            beside 5 1 = 0
            """);
        says("EVEN: the lightest one may be empty", """
            laid e3,60,1;t5,0;t7,0;t7,0;
            even = 0
            into 0 0
            even = 5
            into 1 1
            even = 7
            into 2 2
            even = 2
            """);
    }

    private static void weighed() {
        says("WEIGHED: as many ITEMS as BAGS: a whole ROW, and one less", """
            laid e3,60,1;t1,0;t2,0;t3,0;
            into 0 0
            into 1 1
            into 2 2
            fill 0 2 1 2 3
            astray 0 0 = 128
            astray 0 1 = PLACE
            heavy 0 0 0 = 2
            heavy 0 0 1 = PLACE
            fill 1 2 1 2
            astray 1 0 = PLACE
            heavy 0 1 0 = PLACE
            """);
        says("ASTRAY: 128 more, if it is so as it is", """
            laid e1,60,1;t1,0;t2,0;
            fill 0 0 0 1 2 3
            astray 0 0 = 128
            into 0 0
            astray 0 0 = 1
            astray 0 1 = 128
            into 0 1
            astray 0 0 = 0
            astray 0 1 = 2
            astray 0 2 = 1
            astray 0 3 = 128
            """);
        says("ASTRAY: THINGS in BAGS alone", """
            laid e1,60,1;t2,0;t2,0;t2,0;
            into 0 2 0
            fill 0 0 2
            astray 0 0 = 5
            """);
        says("ASTRAY: in each BAG", """
            laid e3,60,1;t1,0;t2,0;t3,0;
            into 0 0
            into 1 1
            into 2 2
            fill 0 0 0 2 3
            fill 1 0 1 0 3
            fill 2 0 1 2 0
            astray 0 0 = 1
            astray 1 0 = 2
            astray 2 0 = 4
            """);
        says("ASTRAY: every THING of a full BAG", """
            laid e1,60,1;t9,0;t9,0;t9,0;t9,0;t9,0;t9,0;t9,0;
            into 0 0 1 2 3 4 5 6
            fill 0 0 54
            astray 0 0 = 127
            """);
        says("WEIGHED: more than a byte can tell needs shorts", """
            laid e1,60,1;t20,0;t20,0;t20,0;t20,0;t20,0;t20,0;t20,0;
            into 0 0 1 2 3 4 5 6
            fill 0 1 140
            astray 0 0 = 128
            fill 1 0 120
            astray 1 0 = 127
            """);
        says("HEAVY: WEIGHTS 1 to 20, not 0, not 21", """
            laid e1,60,1;t5,0;t7,0;
            into 0 0 1
            fill 0 0 7 8 27 28
            heavy 0 0 0 = 0
            heavy 0 0 1 = 2
            heavy 0 0 2 = 1048576
            heavy 0 0 3 = 0
            """);
        says("HEAVY: of a THING in no BAG any, or none", """
            laid e1,60,1;t5,0;t7,0;
            into 0 0
            fill 0 0 5 6
            heavy 1 0 0 = 2097150
            heavy 1 0 1 = 0
            """);
        says("HEAVY: the other BAGS weigh as told, too", """
            laid e2,60,1;t5,0;t7,0;
            into 0 0
            into 1 1
            fill 0 0 9 7 8
            heavy 0 0 0 = 512
            heavy 0 0 1 = 0
            """);
        says("HEAVY: in each BAG", """
            laid e3,60,1;t1,0;t2,0;t3,0;
            into 0 0
            into 1 1
            into 2 2
            fill 0 0 9 2 3
            fill 1 0 1 9 3
            fill 2 0 1 2 9
            heavy 0 0 0 = 512
            heavy 1 0 0 = 0
            heavy 2 0 0 = 0
            heavy 0 1 0 = 0
            heavy 1 1 0 = 512
            heavy 2 1 0 = 0
            heavy 0 2 0 = 0
            heavy 1 2 0 = 0
            heavy 2 2 0 = 512
            """);
    }

    private static void broken() {
        says("BROKEN: as many ITEMS as THINGS: a whole ROW, and one less", """
            laid e3,60,1;s1,5;t2,0;t3,0;
            fill 0 2 0 0 0
            who 0 0 0 0 = 1023
            who 0 0 0 1 = PLACE
            fill 1 2 0 0
            who 0 0 1 0 = PLACE
            """);
        says("BROKEN: whether (1, 0), nothing else", """
            laid e1,60,1;s1,5;t9,0;
            into 0 0 1
            fill 0 2 1 0
            who 0 0 0 0 = 1022
            fill 0 2 2 0
            who 0 0 0 0 = 0
            fill 0 2 -1 0
            who 0 0 0 0 = 0
            fill 0 2 257 0
            who 0 0 0 0 = 0
            fill 0 0 257 0
            who 0 0 0 0 = 1022
            """);
        says("SOFTS: just what it BEARS is not more", """
            laid e1,60,1;s1,5;t4,0;
            into 0 0 1
            fill 0 0 0 0
            who 0 0 0 0 = 63
            fill 0 0 1 0
            who 0 0 0 0 = 960
            """);
        says("SOFTS: 9 alone, 0 alone", """
            laid e1,60,1;s1,5;s1,0;s1,5;t9,0;
            into 0 0 1
            fill 0 0 1 0 0 0
            who 0 0 0 0 = 512
            takeOut 0
            takeOut 0
            into 0 2 3
            fill 0 0 0 0 0 0
            who 2 0 0 0 = 1
            """);
        says("SOFTS of a cold one go by twos", """
            laid e1,60,1;c1,0;t4,0;
            into 0 0 1
            fill 0 0 0 0
            who 0 0 0 0 = 3
            """);
        says("KINDS (bits 1 to 5): by what each BEARS", """
            laid e1,60,1;s1,0;t9,0;t1,0;t10,0;s1,0;
            into 0 0 1
            fill 0 0 0 0 0 0 0
            who 0 1 0 0 = 2+4+8+16
            into 0 2
            who 0 1 0 0 = 2+4
            into 0 3
            who 0 1 0 0 = 2+4
            into 0 4
            who 0 1 0 0 = 2
            """);
        says("KINDS: by how each PRESSES", """
            laid e1,60,1;s1,8;r2,0;
            into 0 0 1
            fill 0 0 0 0
            who 1 1 0 0 = 8+16
            fill 0 0 1 0
            who 1 1 0 0 = 2+4+32
            """);
        says("SOFTS, KINDS of a THING that is in no BAG: all, or none", """
            laid e1,60,1;s1,8;r2,0;
            fill 0 0 0 0 1
            who 1 0 0 0 = 1023
            who 1 1 0 0 = 62
            who 1 0 0 1 = 0
            who 1 1 0 1 = 0
            """);
        says("BROKEN tells of LOAD, not of CRUSHED", """
            laid e1,60,1;s1,9;t1,0;
            into 0 0 1
            takeOut 0
            thing 0 6 = 1
            fill 0 0 0 0
            who 0 0 0 0 = 1023
            """);
    }

    private static void cold() {
        says("COLD: one alone is no pair", """
            laid e2,60,1;c1,0;c1,0;s1,0;
            colds 0 = 0
            colds 1 = NONE
            into 0 0
            into 1 1
            into 0 2
            colds 0 = 0
            colds 1 = NONE
            """);
        says("COLD: on the HEAP, LAID BY is no pair", """
            shop e2,60,1;c1,0;c1,0;c1,0;c1,0; = 4
            beeps 4
            layBy
            layBy
            colds 0 = 0
            """);
        says("COLD: all seven in one BAG", """
            laid e1,60,1;c1,0;c1,0;c1,0;c1,0;c1,0;c1,0;c1,0;
            into 0 6 5
            colds 0 = 1
            colds 1 = 56
            into 0 4 3 2 1 0
            colds 0 = 21
            colds 1 = 1
            """);
        says("COLD: 10 times the lesser, and the greater, whichever lies above", """
            laid e1,60,1;t1,0;c1,0;t1,0;c1,0;
            into 0 3 1
            colds 1 = 13
            """);
        says("COLD: both are cold, be the other one what it may", """
            laid e1,60,1;t1,0;c1,0;b1,0;r1,0;s1,0;
            into 0 0 1 2 3 4
            colds 0 = 0
            colds 1 = NONE
            """);
    }

    private static void tears() {
        says("TEARS: each BAG that TEARS does, whatever p is", """
            laid e2,5,1;t6,0;t5,0;
            into 0 0
            into 1 1
            tears 1 0 0 = 1
            tears 1 0 1 = 1
            tears 2 0 0 = 0
            tears 2 0 1 = 1
            tears 1 4 0 = 3
            tears 1 4 1 = 5
            """);
        says("TEARS: those CRUSHED do not come home", """
            laid e1,60,1;s1,9;t1,0;
            into 0 0 1
            tears 1 0 0 = 1
            tears 2 0 0 = 0
            tears 2 0 1 = 1
            """);
        says("TEARS: what is in no BAG does not come home", """
            shop e1,60,1;t1,0;t1,0;t1,0; = 3
            beeps 2
            layBy
            tears 1 0 0 = 0
            tears 1 0 1 = 1
            tears 0 10 0 = 1
            """);
        says("TEARS: k, or more: seven", """
            laid e1,60,1;t1,0;t1,0;t1,0;t1,0;t1,0;t1,0;t1,0;
            into 0 0 1 2 3 4 5 6
            tears 7 3 0 = 7
            tears 7 3 1 = 10
            tears 1 3 0 = 7
            tears 1 3 1 = 10
            tears 0 3 0 = 1
            tears 0 3 1 = 1
            """);
        says("TEARS: apart, BAGS of one and two", """
            laid e3,60,1;t1,0;t1,0;t1,0;
            into 0 0
            into 2 1 2
            tears 1 1 0 = 99
            tears 1 1 1 = 100
            tears 2 1 0 = 9
            tears 2 1 1 = 10
            tears 3 1 0 = 81
            tears 3 1 1 = 100
            """);
    }

    private static void trips() {
        says("TRIPS of no BEEPS: as it is", """
            laid e1,60,1;s1,9;t1,0;
            into 0 0 1
            drawn 0 1 0 = 1
            drawn 0 1 1 = 2
            """);
        says("TRIPS: more BEEPS than THINGS", """
            shop e2,60,1;t1,0; = 1
            drawn 1 1 1 = 1
            drawn 60 1 1 = 1
            """);
        says("if X by 3 leaves 0, nothing is packed", """
            shop e2,60,1;t1,0; = 1
            drawn 1 3 1 = 0
            drawn 2 3 1 = 0
            drawn 3 3 1 = 1
            """);
        says("TRIPS: BEEP may go beyond 999", """
            shop e1,60,1;t1,0; = 1
            41* beeps 24
            beeps 15
            drawn 60 1 1 = 1
            """);
    }

    private static void kinds() {
        says("2 BOTTLE, a TIN; 3 ROLLER, a TIN; 5 COLD, a SOFT; all are THINGS", """
            shop e1,5,1;t1,0;b1,0;r1,0;s1,0;c1,0; = 5
            as 0 0 = 0
            as 0 1 = 0
            as 0 2 = KIND
            as 1 1 = 1
            as 1 2 = 1
            as 1 3 = KIND
            as 2 1 = 2
            as 2 2 = KIND
            as 2 3 = 2
            as 3 1 = KIND
            as 3 4 = 3
            as 3 5 = KIND
            as 4 0 = 4
            as 4 1 = KIND
            as 4 4 = 4
            as 4 5 = 4
            """);
    }

    // ---- part 4

    private static void asks() {
        String inBag = """
            laid e1,60,1;t20,0;b20,0;r20,0;s20,0;c20,0;t20,0;t20,0;
            into 0 0 1 2 3 4 5 6
            """;
        says("SIZE: 10 to 14", inBag + """
            ask 0 0 = 95
            ask 1 0 = -128
            ask 2 0 = -935
            ask 3 0 = -80
            ask 4 0 = -160
            ask 6 0 = 26
            """);
        says("MARK: 20 to 24", inBag + """
            ask 0 1 = 75
            ask 1 1 = 108
            ask 2 1 = -955
            ask 3 1 = 83
            ask 4 1 = 164
            ask 6 1 = 6
            """);
        says("THE TRACE of the longest ask", inBag + """
            ask 1 0 = -128
            trace 0 = 12
            trace 1 = 11
            trace 2 = 10
            trace 3 = 24
            trace 4 = 21
            trace 5 = 20
            trace 6 = NONE
            trace 15 = NONE
            trace 16 = NONE
            """);
        says("THE TRACE is empty ahead of an ask", inBag + """
            trace 0 = NONE
            ask 1 0 = -128
            ask 3 0 = -80
            trace 0 = 13
            trace 1 = 10
            trace 2 = NONE
            trace 5 = NONE
            ask 7 0 = BAD
            trace 0 = 13
            """);
    }

    private TermsTest() {
    }
}
