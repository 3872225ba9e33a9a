/**
 * A belt, a heap and bags one above another: what is crushed, and what would be.
 *
 * <p>This class is the face: it looks at every number that comes from outside and refuses what the
 * document refuses, in the document's order. The classes inside may therefore trust what they get.
 */
public final class EggsLast {
    public static final int NONE = -1000000, BAD = -1000001, STATE = -1000002, FULL = -1000003;

    private static final int FINDING = -1000010, FAULT = -1000100;
    private static final int NULL = 1, PLACE = 2, KIND = 3, SIZE = 4, STORE = 5;

    private static final int BELT = 0, HEAP = 1, LAID_BY = 2, FIRST_BAG = 3;
    private static final int MOST_THINGS = 7, MOST_BAGS = 3, MOST_BEEPS = 999, IMAGES = 2;

    /** Above all that seven THINGS can weigh, press by or bear. */
    private static final int BEYOND_ALL = 1000000;

    private final Rows rows = new Rows();
    private final Tape tape = new Tape();
    private final Shop shop = new Shop();
    private final Shop trial = new Shop();
    private final Shop[] images = {new Shop(), new Shop()};
    private final Acts acts = new Acts();
    private final Ways ways = new Ways();
    private final BeltOrder beltOrder = new BeltOrder();
    private final Asks asks = new Asks();
    private int latestFault;
    private int latestFinding;

    public EggsLast() {
    }

    // ---- rows

    public int row(int row, int lane, int n) {
        if (!Rows.isRow(row) || !Rows.isLane(lane) || n > Rows.MOST_ITEMS) {
            return BAD;
        }
        if (n < 0) {
            return found(SIZE);
        }
        rows.make(row, lane, n);
        return fine(n);
    }

    public int set(int row, int i, int v) {
        if (!Rows.isRow(row)) {
            return BAD;
        }
        int finding = rows.findingAt(row, i, 1);
        return finding != 0 ? found(finding) : fine(rows.put(row, i, v));
    }

    public int copy(int a, int i, int b, int j, int n) {
        if (!Rows.isRow(a) || !Rows.isRow(b)) {
            return BAD;
        }
        if (rows.isMissing(a) || rows.isMissing(b)) {
            return found(NULL);
        }
        if (!rows.areOfOneLane(a, b)) {
            return found(STORE);
        }
        if (!rows.reaches(a, i, n) || !rows.reaches(b, j, n)) {
            return found(PLACE);
        }
        rows.carry(a, i, b, j, n);
        return fine(n);
    }

    public int drop(int row) {
        if (!Rows.isRow(row)) {
            return BAD;
        }
        return rows.isMissing(row) ? found(NULL) : fine(rows.lose(row));
    }

    // ---- what is told

    public int feed(int letter) {
        if (letter < 0 || letter > 255) {
            return BAD;
        }
        return tape.append(letter);
    }

    public int shop() {
        int fault = tape.read(trial);
        if (fault != 0) {
            latestFault = fault;
            return FAULT - tape.place;
        }
        shop.become(trial);
        acts.forget();
        return shop.things;
    }

    public int fault() {
        return latestFault;
    }

    public int undo() {
        return acts.takeBack(shop);
    }

    // ---- what is done

    public int beeps(int n) {
        if (!shop.stands()) {
            return STATE;
        }
        if (n < 1 || n > Acts.MOST) {
            return BAD;
        }
        if (shop.beep > MOST_BEEPS - n) {
            return FULL;
        }
        for (int i = 0; i < n; i++) {
            acts.keep(Acts.BEEP, shop.topOf(BELT), shop);
            shop.beepOnce();
        }
        return shop.countAt(BELT);
    }

    public int pack(int bag) {
        if (!shop.stands()) {
            return STATE;
        }
        return shop.hasBag(bag) ? moveTop(HEAP, FIRST_BAG + bag) : BAD;
    }

    public int layBy() {
        return shop.stands() ? moveTop(HEAP, LAID_BY) : STATE;
    }

    public int putIn(int thing, int bag) {
        if (!shop.hasThing(thing) || !shop.hasBag(bag)) {
            return BAD;
        }
        if (shop.where[thing] != LAID_BY) {
            return STATE;
        }
        int below = shop.topOf(FIRST_BAG + bag);
        move(thing, FIRST_BAG + bag);
        return below == NONE ? 0 : shop.loadOn(below);
    }

    public int takeOut(int bag) {
        if (!shop.stands()) {
            return STATE;
        }
        return shop.hasBag(bag) ? moveTop(FIRST_BAG + bag, LAID_BY) : BAD;
    }

    public int swap() {
        if (!shop.stands() || shop.countAt(BELT) < 2) {
            return STATE;
        }
        acts.keep(Acts.SWAP, NONE, shop);
        shop.swapFirstTwo();
        return shop.topOf(BELT);
    }

    public int thing(int thing, int what) {
        if (!shop.hasThing(thing)) {
            return BAD;
        }
        switch (what) {
            case 0: return shop.weight[thing];
            case 1: return shop.soft[thing];
            case 2: return shop.where[thing];
            case 3: return shop.loadOn(thing);
            case 4: return shop.pressOf(thing);
            case 5: return shop.bearsOf(thing);
            case 6: return shop.isCrushed(thing) ? 1 : 0;
            case 7: return shop.isWarm(thing) ? 1 : 0;
            default: return BAD;
        }
    }

    public int bag(int bag, int what) {
        if (!shop.hasBag(bag)) {
            return BAD;
        }
        switch (what) {
            case 0: return shop.weighs(bag);
            case 1: return shop.bitsAt(FIRST_BAG + bag);
            case 2: return shop.topOf(FIRST_BAG + bag);
            case 3: return shop.isTorn(bag) ? 1 : 0;
            default: return BAD;
        }
    }

    public int stand(int what) {
        if (!shop.stands()) {
            return STATE;
        }
        switch (what) {
            case 0: return shop.bitsAt(BELT);
            case 1: return shop.bitsAt(HEAP);
            case 2: return shop.bitsAt(LAID_BY);
            case 3: return shop.crushed;
            case 4: return shop.warmBits();
            case 5: return shop.topOf(BELT);
            case 6: return shop.topOf(HEAP);
            default: return BAD;
        }
    }

    // ---- foretold

    public int least(int k) {
        if (!shop.stands()) {
            return STATE;
        }
        if (k < -2 || k >= shop.things) {
            return BAD;
        }
        ways.seekLeast(shop);
        if (k == -1) {
            return ways.fewest;
        }
        return k == -2 ? ways.lightest : ways.bagFor(k);
    }

    public int torn() {
        return shop.stands() ? ways.seekTorn(shop) : STATE;
    }

    public int give(int what) {
        if (!shop.stands()) {
            return STATE;
        }
        if (what < 0 || what > 1) {
            return BAD;
        }
        ways.seekGive(shop);
        return what == 0 ? ways.given : ways.givenFewest;
    }

    public int order(int bag, int k) {
        if (!shop.stands()) {
            return STATE;
        }
        if (!shop.hasBag(bag) || k < -1) {
            return BAD;
        }
        beltOrder.seek(shop);
        return k == -1 ? beltOrder.crushedBy(shop, bag) : beltOrder.thingAt(shop, k);
    }

    public int top(int bag) {
        return shop.hasBag(bag) ? shop.harmlessOn(FIRST_BAG + bag) : BAD;
    }

    public int spare(int thing) {
        if (!shop.hasThing(thing)) {
            return BAD;
        }
        if (shop.where[thing] < FIRST_BAG) {
            return STATE;
        }
        return shop.isCrushed(thing) ? 0 : shop.bearsOf(thing) - shop.loadOn(thing);
    }

    public int beside(int thing, int up) {
        if (!shop.hasThing(thing) || up < 0 || up > 1) {
            return BAD;
        }
        if (shop.where[thing] < FIRST_BAG) {
            return 0;
        }
        return up == 1 ? shop.bitsAbove(thing) : shop.bitsBelow(thing);
    }

    public int even() {
        return shop.stands() ? shop.heaviest() - shop.lightest() : STATE;
    }

    public int astray(int row, int i) {
        if (!shop.stands()) {
            return STATE;
        }
        if (!Rows.isRow(row)) {
            return BAD;
        }
        int finding = rows.findingAt(row, i, shop.bags);
        return finding != 0 ? found(finding) : fine(Clues.missing(shop, rows.items[row], i));
    }

    public int heavy(int thing, int row, int i) {
        if (!shop.hasThing(thing) || !Rows.isRow(row)) {
            return BAD;
        }
        int finding = rows.findingAt(row, i, shop.bags);
        return finding != 0 ? found(finding) : fine(Clues.weights(shop, thing, rows.items[row], i));
    }

    public int who(int thing, int which, int row, int i) {
        if (!shop.hasThing(thing) || which < 0 || which > 1 || !Rows.isRow(row)) {
            return BAD;
        }
        int finding = rows.findingAt(row, i, shop.things);
        if (finding != 0) {
            return found(finding);
        }
        trial.become(shop);
        int[] items = rows.items[row];
        return fine(which == 0 ? Clues.softs(trial, thing, items, i) : Clues.kinds(trial, thing, items, i));
    }

    public int colds(int what) {
        if (!shop.stands()) {
            return STATE;
        }
        if (what < 0 || what > 1) {
            return BAD;
        }
        return what == 0 ? shop.coldPairs() : shop.firstColdPair();
    }

    public long tears(int k, int p, int what) {
        if (!shop.stands()) {
            return STATE;
        }
        if (k < 0 || k > MOST_THINGS || p < 0 || p > Odds.CASES || what < 0 || what > 1) {
            return BAD;
        }
        return Odds.part(shop, k, p, what);
    }

    public int drawn(int n, int seed, int what) {
        if (!shop.stands()) {
            return STATE;
        }
        if (n < 0 || n > 60 || seed < 1 || seed > 999999 || what < 0 || what > 1) {
            return BAD;
        }
        trial.become(shop);
        trial.goTrip(n, seed);
        return what == 0 ? Integer.bitCount(trial.crushed) : trial.weighsInAll();
    }

    public int image(int k) {
        if (k < 0 || k >= IMAGES) {
            return BAD;
        }
        if (!shop.stands()) {
            return STATE;
        }
        images[k].become(shop);
        return 1;
    }

    public int restore(int k) {
        if (k < 0 || k >= IMAGES) {
            return BAD;
        }
        if (!images[k].stands()) {
            return STATE;
        }
        shop.become(images[k]);
        acts.forget();
        return 1;
    }

    // ---- asked

    public int kind(int one) {
        return shop.hasThing(one) ? shop.kind[one] : BAD;
    }

    public int as(int one, int kind) {
        if (!shop.hasThing(one) || kind < 0 || kind > Kinds.COLD) {
            return BAD;
        }
        return Kinds.isA(shop.kind[one], kind) ? fine(one) : found(KIND);
    }

    public int ask(int one, int what) {
        if (!shop.hasThing(one) || what < 0 || what > 1) {
            return BAD;
        }
        return asks.answer(shop, one, what);
    }

    public int trace(int i) {
        return asks.traced(i);
    }

    public int count(int what) {
        switch (what) {
            case 0: return rows.present();
            case 1: return shop.things;
            case 2: return shop.bags;
            case 3: return shop.beep;
            case 4: return Integer.bitCount(shop.crushed);
            case 5: return shop.weighsInAll();
            case 6: return acts.kept;
            case 7: return tape.length;
            default: return BAD;
        }
    }

    public int status() {
        return latestFinding;
    }

    // ---- helpers of the face

    private int found(int finding) {
        latestFinding = finding;
        return FINDING - finding;
    }

    private int fine(int answer) {
        latestFinding = 0;
        return answer;
    }

    private int moveTop(int from, int to) {
        int thing = shop.topOf(from);
        if (thing == NONE) {
            return STATE;
        }
        move(thing, to);
        return thing;
    }

    private void move(int thing, int to) {
        acts.keep(Acts.MOVE, thing, shop);
        shop.lay(thing, to);
    }

    /** ROWS of three LANES, all held as ints, so that no row needs an array of its own kind. */
    private static final class Rows {
        static final int MOST_ITEMS = 40;
        private static final int MOST_ROWS = 8, MISSING = -1, BYTES = 0, SHORTS = 1, INTS = 2;

        private final int[][] items = new int[MOST_ROWS][MOST_ITEMS];
        private final int[] lanes = new int[MOST_ROWS];
        private final int[] sizes = new int[MOST_ROWS];

        Rows() {
            for (int row = 0; row < MOST_ROWS; row++) {
                sizes[row] = MISSING;
            }
        }

        static boolean isRow(int row) {
            return row >= 0 && row < MOST_ROWS;
        }

        static boolean isLane(int lane) {
            return lane >= BYTES && lane <= INTS;
        }

        boolean isMissing(int row) {
            return sizes[row] == MISSING;
        }

        boolean areOfOneLane(int a, int b) {
            return lanes[a] == lanes[b];
        }

        /** Subtracts instead of adding, as i and n may be so great that their sum would wrap. */
        boolean reaches(int row, int i, int n) {
            return i >= 0 && n >= 0 && n <= sizes[row] && i <= sizes[row] - n;
        }

        int findingAt(int row, int i, int n) {
            if (isMissing(row)) {
                return NULL;
            }
            return reaches(row, i, n) ? 0 : PLACE;
        }

        int present() {
            int many = 0;
            for (int row = 0; row < MOST_ROWS; row++) {
                many += isMissing(row) ? 0 : 1;
            }
            return many;
        }

        void make(int row, int lane, int n) {
            lanes[row] = lane;
            sizes[row] = n;
            for (int i = 0; i < MOST_ITEMS; i++) {
                items[row][i] = 0;
            }
        }

        int put(int row, int i, int v) {
            int cut = v;
            if (lanes[row] == BYTES) {
                cut = (byte) v;
            } else if (lanes[row] == SHORTS) {
                cut = (short) v;
            }
            items[row][i] = cut;
            return cut;
        }

        void carry(int a, int i, int b, int j, int n) {
            System.arraycopy(items[a], i, items[b], j, n);
        }

        int lose(int row) {
            int had = sizes[row];
            sizes[row] = MISSING;
            return had;
        }
    }

    /**
     * The tape and how it is read. The first FAULT stops all reading that follows it, so that the
     * reading methods can be written as the document's rules, one behind another.
     */
    private static final class Tape {
        private static final int MOST = 120;
        private static final int MISPLACED = 1, NOT_AS_TOLD = 2, NO_ROOM = 3;

        private final int[] bytes = new int[MOST];
        private int length;
        private int place;
        private int fault;

        int append(int letter) {
            if (length >= MOST) {
                return FULL;
            }
            bytes[length] = letter;
            length++;
            return length;
        }

        /** With a FAULT, place is left at the first byte of its TOKEN. */
        int read(Shop to) {
            place = 0;
            fault = 0;
            readLaw(to);
            readThing(to);
            for (int more = 0; more < MOST_THINGS && fault == 0 && place < length; more++) {
                readThing(to);
            }
            to.layAllOnBelt();
            length = 0;
            return fault;
        }

        private void readLaw(Shop to) {
            readSign('e');
            int bags = readNumber(1, MOST_BAGS);
            readSign(',');
            int holds = readNumber(5, 60);
            readSign(',');
            int warmth = readNumber(1, 40);
            readSign(';');
            to.open(bags, holds, warmth);
        }

        private void readThing(Shop to) {
            int kind = readSort(to.things);
            int weight = readNumber(1, 20);
            readSign(',');
            int soft = readNumber(0, 9);
            readSign(';');
            if (fault == 0) {
                to.add(kind, weight, soft);
            }
        }

        private void readSign(char sign) {
            if (fault != 0) {
                return;
            }
            if (place < length && bytes[place] == sign) {
                place++;
            } else {
                fault = MISPLACED;
            }
        }

        private int readNumber(int least, int most) {
            if (fault != 0) {
                return least;
            }
            int value = 0;
            int figures = 0;
            for (int i = place; i < length && bytes[i] >= '0' && bytes[i] <= '9' && figures < 3; i++) {
                value = value * 10 + bytes[i] - '0';
                figures++;
            }
            if (figures < 1 || figures > 2) {
                fault = MISPLACED;
            } else if (value < least || value > most) {
                fault = NOT_AS_TOLD;
            } else {
                place += figures;
                return value;
            }
            return least;
        }

        private int readSort(int thingsAhead) {
            if (fault != 0) {
                return Kinds.THING;
            }
            int kind = place < length ? Kinds.byLetter(bytes[place]) : Kinds.THING;
            if (kind == Kinds.THING) {
                fault = MISPLACED;
            } else if (thingsAhead >= MOST_THINGS) {
                fault = NO_ROOM;
            } else {
                place++;
            }
            return kind;
        }
    }

    /** What holds of a KIND by itself, whatever THING is of it. */
    private static final class Kinds {
        static final int THING = 0, TIN = 1, BOTTLE = 2, ROLLER = 3, SOFT = 4, COLD = 5;
        private static final int[] PARENT = {NONE, THING, TIN, TIN, THING, SOFT};

        private Kinds() {
        }

        /** THING stands for a letter that is no SORT, as no SORT tells of a mere THING. */
        static int byLetter(int letter) {
            switch (letter) {
                case 't': return TIN;
                case 'b': return BOTTLE;
                case 'r': return ROLLER;
                case 's': return SOFT;
                case 'c': return COLD;
                default: return THING;
            }
        }

        static boolean isA(int kind, int other) {
            int at = kind;
            for (int step = 0; step < PARENT.length && at >= 0 && at < PARENT.length; step++) {
                if (at == other) {
                    return true;
                }
                at = PARENT[at];
            }
            return false;
        }

        static int press(int kind, int weight) {
            switch (kind) {
                case TIN: return weight;
                case BOTTLE: return weight + 2;
                case ROLLER: return weight / 2;
                case SOFT: return 1;
                default: return 2;
            }
        }

        static int bears(int kind, int soft) {
            switch (kind) {
                case TIN: return 60;
                case BOTTLE: return 20;
                case ROLLER: return 9;
                case SOFT: return 9 - soft;
                default: return (9 - soft) / 2;
            }
        }
    }

    /**
     * A SHOP: its law, its THINGS, and where they are. Where a THING is, is told by a place and a
     * height there, the first on the BELT being the highest: so whatever leaves the BELT, the HEAP or
     * a BAG leaves from the top, and comes back there when it is undone. Heights among what is LAID
     * BY mean nothing.
     */
    private static final class Shop {
        private static final long FACTOR = 16807L, MODULUS = 2147483647L;

        private int bags;
        private int holds;
        private int warmth;
        private int things;
        private int beep;
        private int crushed;
        private final int[] kind = new int[MOST_THINGS];
        private final int[] weight = new int[MOST_THINGS];
        private final int[] soft = new int[MOST_THINGS];
        private final int[] where = new int[MOST_THINGS];
        private final int[] height = new int[MOST_THINGS];
        private final int[] came = new int[MOST_THINGS];

        /** A law has at least one BAG, so none at all means that no SHOP was read. */
        boolean stands() {
            return bags > 0;
        }

        boolean hasThing(int thing) {
            return thing >= 0 && thing < things;
        }

        boolean hasBag(int bag) {
            return bag >= 0 && bag < bags;
        }

        void open(int bagsTold, int holdsTold, int warmthTold) {
            bags = bagsTold;
            holds = holdsTold;
            warmth = warmthTold;
            things = 0;
            beep = 0;
            crushed = 0;
        }

        void add(int kindTold, int weightTold, int softTold) {
            if (things >= MOST_THINGS) {
                return;
            }
            kind[things] = kindTold;
            weight[things] = weightTold;
            soft[things] = softTold;
            things++;
        }

        void layAllOnBelt() {
            for (int thing = 0; thing < things; thing++) {
                where[thing] = BELT;
                height[thing] = things - 1 - thing;
                came[thing] = 0;
            }
        }

        void become(Shop other) {
            bags = other.bags;
            holds = other.holds;
            warmth = other.warmth;
            things = other.things;
            beep = other.beep;
            crushed = other.crushed;
            for (int thing = 0; thing < MOST_THINGS; thing++) {
                kind[thing] = other.kind[thing];
                weight[thing] = other.weight[thing];
                soft[thing] = other.soft[thing];
                where[thing] = other.where[thing];
                height[thing] = other.height[thing];
                came[thing] = other.came[thing];
            }
        }

        // -- what is done

        void beepOnce() {
            int first = topOf(BELT);
            beep++;
            if (first != NONE) {
                came[first] = beep;
                put(first, HEAP);
            }
        }

        /** Crushes what cannot bear it, as coming to a place by itself does not. */
        void lay(int thing, int place) {
            put(thing, place);
            crushed |= overladenBits();
        }

        void put(int thing, int place) {
            height[thing] = countAt(place);
            where[thing] = place;
        }

        void swapFirstTwo() {
            int high = countAt(BELT);
            int first = thingAt(BELT, high - 1);
            int second = thingAt(BELT, high - 2);
            if (first != NONE && second != NONE) {
                height[first] = high - 2;
                height[second] = high - 1;
            }
        }

        void goTrip(int n, int seed) {
            long x = seed;
            for (int i = 0; i < n; i++) {
                beepOnce();
                x = x * FACTOR % MODULUS;
                int highest = topOf(HEAP);
                if (x % 3 != 0 && highest != NONE && bags > 0) {
                    lay(highest, FIRST_BAG + (int) (x % bags));
                }
            }
        }

        // -- places

        int countAt(int place) {
            return Integer.bitCount(bitsAt(place));
        }

        int bitsAt(int place) {
            int bits = 0;
            for (int thing = 0; thing < things; thing++) {
                if (where[thing] == place) {
                    bits |= 1 << thing;
                }
            }
            return bits;
        }

        int thingAt(int place, int high) {
            for (int thing = 0; thing < things; thing++) {
                if (where[thing] == place && height[thing] == high) {
                    return thing;
                }
            }
            return NONE;
        }

        int topOf(int place) {
            return thingAt(place, countAt(place) - 1);
        }

        int bitsAbove(int thing) {
            int bits = 0;
            for (int other = 0; other < things; other++) {
                if (where[other] == where[thing] && height[other] > height[thing]) {
                    bits |= 1 << other;
                }
            }
            return bits;
        }

        int bitsBelow(int thing) {
            return bitsAt(where[thing]) & ~bitsAbove(thing) & ~(1 << thing);
        }

        // -- what presses, and what bears it

        int pressOf(int thing) {
            return Kinds.press(kind[thing], weight[thing]);
        }

        int bearsOf(int thing) {
            return Kinds.bears(kind[thing], soft[thing]);
        }

        int loadOn(int thing) {
            if (where[thing] < FIRST_BAG) {
                return 0;
            }
            int load = 0;
            int above = bitsAbove(thing);
            for (int other = 0; other < things; other++) {
                load += (above >> other & 1) == 1 ? Kinds.press(kind[other], weight[other]) : 0;
            }
            return load;
        }

        int overladenBits() {
            int bits = 0;
            for (int thing = 0; thing < things; thing++) {
                bits |= loadOn(thing) > bearsOf(thing) ? 1 << thing : 0;
            }
            return bits;
        }

        boolean isCrushed(int thing) {
            return (crushed >> thing & 1) == 1;
        }

        /** The THINGS in no BAG that may lie on a BAG and crush nothing more. */
        int harmlessOn(int place) {
            int room = leastSpareAt(place);
            int bits = 0;
            for (int thing = 0; thing < things; thing++) {
                if (where[thing] < FIRST_BAG && pressOf(thing) <= room) {
                    bits |= 1 << thing;
                }
            }
            return bits;
        }

        private int leastSpareAt(int place) {
            int least = BEYOND_ALL;
            for (int thing = 0; thing < things; thing++) {
                if (where[thing] == place && !isCrushed(thing)) {
                    least = Math.min(least, bearsOf(thing) - loadOn(thing));
                }
            }
            return least;
        }

        // -- BAGS

        int weighs(int bag) {
            int sum = 0;
            for (int thing = 0; thing < things; thing++) {
                sum += where[thing] == FIRST_BAG + bag ? weight[thing] : 0;
            }
            return sum;
        }

        boolean isTorn(int bag) {
            return weighs(bag) > holds;
        }

        int weighsInAll() {
            int sum = 0;
            for (int bag = 0; bag < bags; bag++) {
                sum += weighs(bag);
            }
            return sum;
        }

        int heaviest() {
            int most = 0;
            for (int bag = 0; bag < bags; bag++) {
                most = Math.max(most, weighs(bag));
            }
            return most;
        }

        int lightest() {
            int least = BEYOND_ALL;
            for (int bag = 0; bag < bags; bag++) {
                least = Math.min(least, weighs(bag));
            }
            return least;
        }

        // -- cold THINGS

        boolean isWarm(int thing) {
            return kind[thing] == Kinds.COLD && where[thing] != BELT && beep - came[thing] + 1 >= warmth;
        }

        int warmBits() {
            int bits = 0;
            for (int thing = 0; thing < things; thing++) {
                bits |= isWarm(thing) ? 1 << thing : 0;
            }
            return bits;
        }

        int coldPairs() {
            int many = 0;
            for (int lesser = 0; lesser < things; lesser++) {
                for (int greater = lesser + 1; greater < things; greater++) {
                    many += isColdPair(lesser, greater) ? 1 : 0;
                }
            }
            return many;
        }

        int firstColdPair() {
            for (int lesser = 0; lesser < things; lesser++) {
                for (int greater = lesser + 1; greater < things; greater++) {
                    if (isColdPair(lesser, greater)) {
                        return 10 * lesser + greater;
                    }
                }
            }
            return NONE;
        }

        private boolean isColdPair(int one, int other) {
            return kind[one] == Kinds.COLD && kind[other] == Kinds.COLD
                && where[one] >= FIRST_BAG && where[one] == where[other];
        }
    }

    /** The latest ACTS in a ring, each with what is needed to take it back and no more. */
    private static final class Acts {
        static final int MOST = 24, MOVE = 0, BEEP = 1, SWAP = 2;

        private final int[] sorts = new int[MOST];
        private final int[] moved = new int[MOST];
        private final int[] from = new int[MOST];
        private final int[] crushedAhead = new int[MOST];
        private int oldest;
        private int kept;

        void forget() {
            kept = 0;
        }

        /** To be called ahead of the ACT, while the THING is still where it was. */
        void keep(int sort, int thing, Shop shop) {
            int at = (oldest + kept) % MOST;
            sorts[at] = sort;
            moved[at] = thing;
            from[at] = thing == NONE ? NONE : shop.where[thing];
            crushedAhead[at] = shop.crushed;
            if (kept < MOST) {
                kept++;
            } else {
                oldest = (oldest + 1) % MOST;
            }
        }

        int takeBack(Shop shop) {
            if (kept < 1) {
                return STATE;
            }
            kept--;
            int at = (oldest + kept) % MOST;
            if (sorts[at] == SWAP) {
                shop.swapFirstTwo();
            }
            if (sorts[at] == BEEP) {
                shop.beep--;
            }
            if (moved[at] != NONE) {
                shop.put(moved[at], from[at]);
            }
            shop.crushed = crushedAhead[at];
            return kept;
        }
    }

    /**
     * The WAYS, tried in the document's order, so that the first one of several that are as good is
     * the one that is kept. THINGS crushed and the heaviest BAG only grow while a WAY packs on, so a
     * WAY that is no better than the best one already need not be gone to its end.
     */
    private static final class Ways {
        private final int[] queue = new int[MOST_THINGS];
        private final int[] packed = new int[MOST_THINGS];
        private final int[] tried = new int[MOST_THINGS];
        private final int[] best = new int[MOST_THINGS];
        private final int[] press = new int[MOST_THINGS];
        private final int[] spare = new int[MOST_THINGS];
        private final int[] weight = new int[MOST_THINGS];
        private final int[] inBag = new int[MOST_BAGS];
        private final int[] weighs = new int[MOST_BAGS];
        private int bags;
        private int holds;
        private int queued;
        private int packedMany;
        private int fewest;
        private int lightest;
        private int given;
        private int givenFewest;

        void seekLeast(Shop shop) {
            begin(shop);
            packAllBut(NONE);
            fewest = MOST_THINGS + 1;
            goOn(this, 0, shop.crushed, shop.heaviest());
        }

        int seekTorn(Shop shop) {
            begin(shop);
            return fewestTorn(this, 0, MOST_BAGS);
        }

        /**
         * By numbers, not as they are packed: the first THING of several is the one of the least
         * number. Weights do not matter here: the heaviest BAG is told as the heaviest that can be
         * from the start, so that no WAY is better by it.
         */
        void seekGive(Shop shop) {
            begin(shop);
            given = NONE;
            givenFewest = NONE;
            fewest = MOST_THINGS + 1;
            for (int thing = 0; thing < shop.things; thing++) {
                if (shop.where[thing] < FIRST_BAG) {
                    tryWithout(thing, shop.crushed);
                }
            }
        }

        private void tryWithout(int thing, int crushed) {
            packAllBut(thing);
            lightest = BEYOND_ALL;
            goOn(this, 0, crushed, BEYOND_ALL);
            if (given == NONE || fewest < givenFewest) {
                given = thing;
                givenFewest = fewest;
            }
        }

        int bagFor(int thing) {
            for (int i = 0; i < packedMany; i++) {
                if (packed[i] == thing) {
                    return best[i];
                }
            }
            return NONE;
        }

        private void begin(Shop shop) {
            bags = shop.bags;
            holds = shop.holds;
            for (int bag = 0; bag < bags; bag++) {
                inBag[bag] = shop.bitsAt(FIRST_BAG + bag);
                weighs[bag] = shop.weighs(bag);
            }
            for (int thing = 0; thing < shop.things; thing++) {
                press[thing] = shop.pressOf(thing);
                spare[thing] = shop.bearsOf(thing) - shop.loadOn(thing);
                weight[thing] = shop.weight[thing];
            }
            queued = 0;
            queueFromTop(shop, HEAP);
            queueLaidBy(shop);
            queueFromTop(shop, BELT);
        }

        private void queueFromTop(Shop shop, int place) {
            for (int high = shop.countAt(place) - 1; high >= 0; high--) {
                enqueue(shop.thingAt(place, high));
            }
        }

        private void queueLaidBy(Shop shop) {
            for (int thing = 0; thing < shop.things; thing++) {
                if (shop.where[thing] == LAID_BY) {
                    enqueue(thing);
                }
            }
        }

        private void enqueue(int thing) {
            if (thing != NONE && queued < MOST_THINGS) {
                queue[queued] = thing;
                queued++;
            }
        }

        private void packAllBut(int left) {
            packedMany = 0;
            for (int i = 0; i < queued; i++) {
                if (queue[i] != left) {
                    packed[packedMany] = queue[i];
                    packedMany++;
                }
            }
        }

        private static void goOn(Ways ways, int depth, int crushed, int heaviest) {
            if (!ways.isBetter(Integer.bitCount(crushed), heaviest)) {
                return;
            }
            if (depth >= ways.packedMany) {
                ways.keep(Integer.bitCount(crushed), heaviest);
                return;
            }
            int thing = ways.packed[depth];
            int bagsToTry = ways.bagsToTry();
            for (int bag = 0; bag < bagsToTry; bag++) {
                ways.tried[depth] = bag;
                int crushedThen = crushed | ways.lay(thing, bag);
                goOn(ways, depth + 1, crushedThen, Math.max(heaviest, ways.weighs[bag]));
                ways.lift(thing, bag);
            }
        }

        /** Of empty BAGS at the end only the first: they are all alike, and it comes first. */
        private int bagsToTry() {
            int many = bags;
            for (int bag = bags - 1; bag > 0 && weighs[bag] == 0 && weighs[bag - 1] == 0; bag--) {
                many = bag;
            }
            return many;
        }

        private boolean isBetter(int many, int heaviest) {
            return many < fewest || many == fewest && heaviest < lightest;
        }

        private void keep(int many, int heaviest) {
            fewest = many;
            lightest = heaviest;
            for (int i = 0; i < packedMany; i++) {
                best[i] = tried[i];
            }
        }

        private int lay(int thing, int bag) {
            int overladen = 0;
            for (int below = 0; below < MOST_THINGS; below++) {
                if ((inBag[bag] >> below & 1) == 1) {
                    spare[below] -= press[thing];
                    overladen |= spare[below] < 0 ? 1 << below : 0;
                }
            }
            inBag[bag] |= 1 << thing;
            weighs[bag] += weight[thing];
            return overladen;
        }

        private void lift(int thing, int bag) {
            weighs[bag] -= weight[thing];
            inBag[bag] &= ~(1 << thing);
            for (int below = 0; below < MOST_THINGS; below++) {
                if ((inBag[bag] >> below & 1) == 1) {
                    spare[below] += press[thing];
                }
            }
        }

        private static int fewestTorn(Ways ways, int depth, int bestSoFar) {
            int torn = ways.tornNow();
            if (torn >= bestSoFar || depth >= ways.queued) {
                return Math.min(torn, bestSoFar);
            }
            int thing = ways.queue[depth];
            int least = bestSoFar;
            int bagsToTry = ways.bagsToTry();
            for (int bag = 0; bag < bagsToTry; bag++) {
                ways.weighs[bag] += ways.weight[thing];
                least = fewestTorn(ways, depth + 1, least);
                ways.weighs[bag] -= ways.weight[thing];
            }
            return least;
        }

        private int tornNow() {
            int many = 0;
            for (int bag = 0; bag < bags; bag++) {
                many += weighs[bag] > holds ? 1 : 0;
            }
            return many;
        }
    }

    /**
     * ORDER: what lies on a THING is the rest of the BELT, whatever its order, so the fewest that are
     * crushed among some THINGS depend on this set alone, and are found for each set from lesser ones.
     */
    private static final class BeltOrder {
        private static final int SETS = 1 << MOST_THINGS;

        private final int[] fewest = new int[SETS];
        private final int[] presses = new int[SETS];
        private int belt;

        void seek(Shop shop) {
            belt = shop.bitsAt(BELT);
            for (int set = 1; set <= belt; set++) {
                if ((set & ~belt) == 0) {
                    weigh(shop, set);
                }
            }
        }

        private void weigh(Shop shop, int set) {
            presses[set] = 0;
            fewest[set] = MOST_THINGS + 1;
            for (int thing = 0; thing < shop.things; thing++) {
                if ((set >> thing & 1) == 1) {
                    presses[set] += shop.pressOf(thing);
                    fewest[set] = Math.min(fewest[set], fewestFrom(shop, set, thing));
                }
            }
        }

        /** The fewest crushed of a set whose first one is told. */
        private int fewestFrom(Shop shop, int set, int thing) {
            int others = set & ~(1 << thing);
            boolean breaks = shop.isCrushed(thing) || presses[others] > shop.bearsOf(thing);
            return fewest[others] + (breaks ? 1 : 0);
        }

        int crushedBy(Shop shop, int bag) {
            int crushed = shop.crushed & ~belt;
            for (int thing = 0; thing < shop.things; thing++) {
                if (shop.where[thing] == FIRST_BAG + bag
                    && shop.loadOn(thing) + presses[belt] > shop.bearsOf(thing)) {
                    crushed |= 1 << thing;
                }
            }
            return Integer.bitCount(crushed) + fewest[belt];
        }

        int thingAt(Shop shop, int k) {
            int set = belt;
            int thing = firstOf(shop, set);
            for (int i = 0; i < k && thing != NONE; i++) {
                set &= ~(1 << thing);
                thing = firstOf(shop, set);
            }
            return thing;
        }

        private int firstOf(Shop shop, int set) {
            for (int thing = 0; thing < shop.things; thing++) {
                if ((set >> thing & 1) == 1 && fewestFrom(shop, set, thing) == fewest[set]) {
                    return thing;
                }
            }
            return NONE;
        }
    }

    /** What rows of measured or broken things tell: everything that fits them. */
    private static final class Clues {
        private static final int AS_IT_IS = 128, MOST_WEIGHT = 20, MOST_SOFT = 9;

        private Clues() {
        }

        static int missing(Shop shop, int[] items, int from) {
            int bits = isWeighed(shop, NONE, 0, items, from) ? AS_IT_IS : 0;
            for (int thing = 0; thing < shop.things; thing++) {
                if (shop.where[thing] >= FIRST_BAG && isWeighed(shop, thing, 0, items, from)) {
                    bits |= 1 << thing;
                }
            }
            return bits;
        }

        static int weights(Shop shop, int thing, int[] items, int from) {
            int bits = 0;
            for (int weight = 1; weight <= MOST_WEIGHT; weight++) {
                bits |= isWeighed(shop, thing, weight, items, from) ? 1 << weight : 0;
            }
            return bits;
        }

        /** Whether the items tell what the BAGS weigh, if one THING (or NONE) had another weight. */
        private static boolean isWeighed(Shop shop, int thing, int weight, int[] items, int from) {
            for (int bag = 0; bag < shop.bags; bag++) {
                int weighs = shop.weighs(bag);
                if (thing != NONE && shop.where[thing] == FIRST_BAG + bag) {
                    weighs += weight - shop.weight[thing];
                }
                if (items[from + bag] != weighs) {
                    return false;
                }
            }
            return true;
        }

        /** The SHOP is a trial one, in which the THING may be left changed. */
        static int softs(Shop trial, int thing, int[] items, int from) {
            int bits = 0;
            for (int soft = 0; soft <= MOST_SOFT; soft++) {
                trial.soft[thing] = soft;
                bits |= isBroken(trial, items, from) ? 1 << soft : 0;
            }
            return bits;
        }

        /** The SHOP is a trial one, in which the THING may be left changed. */
        static int kinds(Shop trial, int thing, int[] items, int from) {
            int bits = 0;
            for (int kind = Kinds.TIN; kind <= Kinds.COLD; kind++) {
                trial.kind[thing] = kind;
                bits |= isBroken(trial, items, from) ? 1 << kind : 0;
            }
            return bits;
        }

        private static boolean isBroken(Shop shop, int[] items, int from) {
            int overladen = shop.overladenBits();
            for (int thing = 0; thing < shop.things; thing++) {
                if (items[from + thing] != (overladen >> thing & 1)) {
                    return false;
                }
            }
            return true;
        }
    }

    /** TEARS, in whole cases of ten for each BAG, so that nothing is rounded. */
    private static final class Odds {
        static final int CASES = 10;

        private Odds() {
        }

        /** All cases are a power of ten: whatever divides both parts is made of twos and fives. */
        static long part(Shop shop, int k, int p, int what) {
            long above = casesOf(shop, k, p);
            long below = allCases(shop);
            for (int bag = 0; bag < shop.bags; bag++) {
                if (above % 2 == 0 && below % 2 == 0) {
                    above /= 2;
                    below /= 2;
                }
                if (above % 5 == 0 && below % 5 == 0) {
                    above /= 5;
                    below /= 5;
                }
            }
            return what == 0 ? above : below;
        }

        private static long allCases(Shop shop) {
            long all = 1;
            for (int bag = 0; bag < shop.bags; bag++) {
                all *= CASES;
            }
            return all;
        }

        private static long casesOf(Shop shop, int k, int p) {
            long sum = 0;
            for (int whole = 0; whole < 1 << shop.bags; whole++) {
                if (comeHome(shop, whole) >= k) {
                    sum += casesIn(shop, whole, p);
                }
            }
            return sum;
        }

        private static int comeHome(Shop shop, int whole) {
            int many = 0;
            for (int thing = 0; thing < shop.things; thing++) {
                int bag = shop.where[thing] - FIRST_BAG;
                if (bag >= 0 && (whole >> bag & 1) == 1 && !shop.isCrushed(thing)) {
                    many++;
                }
            }
            return many;
        }

        /** In how many cases just the BAGS of a set stay whole. */
        private static long casesIn(Shop shop, int whole, int p) {
            long cases = 1;
            for (int bag = 0; bag < shop.bags; bag++) {
                int tearing = tearingCases(shop, bag, p);
                cases *= (whole >> bag & 1) == 1 ? CASES - tearing : tearing;
            }
            return cases;
        }

        private static int tearingCases(Shop shop, int bag, int p) {
            if (shop.isTorn(bag)) {
                return CASES;
            }
            return shop.bitsAt(FIRST_BAG + bag) == 0 ? 0 : p;
        }
    }

    /** ASKS of THINGS, and THE TRACE that their BODIES leave. */
    private static final class Asks {
        private static final int MOST_TRACED = 16, MOST_DEPTH = 16, MARK = 1;
        private static final int[] SIZE_BODIES = {10, 11, 12, 11, 13, 14};
        private static final int[] MARK_BODIES = {20, 21, 24, 22, 23, 23};

        private final int[] bodies = new int[MOST_TRACED];
        private int left;
        private int number;
        private int weight;
        private int load;
        private int sizeBody;
        private int markBody;

        int answer(Shop shop, int thing, int what) {
            int kind = shop.kind[thing];
            if (kind < 0 || kind > Kinds.COLD) {
                return BAD;
            }
            number = thing;
            weight = shop.weight[thing];
            load = shop.loadOn(thing);
            sizeBody = SIZE_BODIES[kind];
            markBody = MARK_BODIES[kind];
            left = 0;
            return gives(this, what == MARK ? markBody : sizeBody, 0);
        }

        int traced(int i) {
            return i >= 0 && i < left ? bodies[i] : NONE;
        }

        private static int gives(Asks asks, int body, int depth) {
            if (depth >= MOST_DEPTH) {
                return 0;
            }
            asks.leave(body);
            int next = depth + 1;
            switch (body) {
                case 10: return asks.weight;
                case 11: return gives(asks, 10, next) + gives(asks, asks.markBody, next);
                case 12: return -gives(asks, 11, next);
                case 13: return gives(asks, 10, next) - 100;
                case 14: return 2 * gives(asks, 13, next);
                case 20: return asks.number;
                case 21: return gives(asks, 20, next) + asks.load;
                case 22: return gives(asks, 21, next) - 1000;
                case 23: return gives(asks, 20, next) - gives(asks, asks.sizeBody, next);
                case 24: return 2 * gives(asks, 21, next);
                default: return 0;
            }
        }

        private void leave(int body) {
            if (left < MOST_TRACED) {
                bodies[left] = body;
                left++;
            }
        }
    }
}
