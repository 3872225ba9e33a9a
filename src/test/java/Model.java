import java.math.BigInteger;
import java.util.ArrayList;
import java.util.Collections;
import java.util.List;

/**
 * The document once more, written apart from EggsLast and as plainly as it goes: lists for piles, a
 * whole copy of the SHOP for every ACT, and every WAY and every order played to its end.
 */
final class Model {
    static final int NONE = -1000000, BAD = -1000001, STATE = -1000002, FULL = -1000003;

    static final class Thing {
        final int number;
        char sort;
        final int weight;
        int soft;

        Thing(int number, char sort, int weight, int soft) {
            this.number = number;
            this.sort = sort;
            this.weight = weight;
            this.soft = soft;
        }

        int press() {
            return sort == 't' ? weight : sort == 'b' ? weight + 2 : sort == 'r' ? weight / 2 : sort == 's' ? 1 : 2;
        }

        int bears() {
            return sort == 't' ? 60 : sort == 'b' ? 20 : sort == 'r' ? 9 : sort == 's' ? 9 - soft : (9 - soft) / 2;
        }
    }

    static final class World {
        int bags, holds, warmth, beep;
        final List<Thing> things = new ArrayList<>();
        final List<Integer> belt = new ArrayList<>();
        final List<Integer> heap = new ArrayList<>();
        final List<Integer> laid = new ArrayList<>();
        final List<List<Integer>> bag = new ArrayList<>();
        final boolean[] crushed = new boolean[7];
        final int[] came = new int[7];

        World twin() {
            World w = new World();
            w.bags = bags;
            w.holds = holds;
            w.warmth = warmth;
            w.beep = beep;
            for (Thing t : things) {
                w.things.add(new Thing(t.number, t.sort, t.weight, t.soft));
            }
            w.belt.addAll(belt);
            w.heap.addAll(heap);
            w.laid.addAll(laid);
            for (List<Integer> one : bag) {
                w.bag.add(new ArrayList<>(one));
            }
            System.arraycopy(crushed, 0, w.crushed, 0, 7);
            System.arraycopy(came, 0, w.came, 0, 7);
            return w;
        }

        int bagOf(int t) {
            for (int b = 0; b < bags; b++) {
                if (bag.get(b).contains(t)) {
                    return b;
                }
            }
            return -1;
        }

        int load(int t) {
            int b = bagOf(t);
            int sum = 0;
            for (int i = b < 0 ? 99 : bag.get(b).indexOf(t) + 1; b >= 0 && i < bag.get(b).size(); i++) {
                sum += things.get(bag.get(b).get(i)).press();
            }
            return sum;
        }

        void crush() {
            for (Thing t : things) {
                crushed[t.number] |= load(t.number) > t.bears();
            }
        }

        void pack(int t, int b) {
            belt.remove((Integer) t);
            heap.remove((Integer) t);
            laid.remove((Integer) t);
            bag.get(b).add(t);
            crush();
        }

        void beep() {
            beep++;
            if (!belt.isEmpty()) {
                int t = belt.remove(0);
                came[t] = beep;
                heap.add(t);
            }
        }

        int crushedMany() {
            int n = 0;
            for (boolean c : crushed) {
                n += c ? 1 : 0;
            }
            return n;
        }

        int weighs(int b) {
            return bag.get(b).stream().mapToInt(t -> things.get(t).weight).sum();
        }

        int heaviest() {
            int m = 0;
            for (int b = 0; b < bags; b++) {
                m = Math.max(m, weighs(b));
            }
            return m;
        }

        int all() {
            int m = 0;
            for (int b = 0; b < bags; b++) {
                m += weighs(b);
            }
            return m;
        }

        int tornMany() {
            int n = 0;
            for (int b = 0; b < bags; b++) {
                n += weighs(b) > holds ? 1 : 0;
            }
            return n;
        }

        boolean warm(int t) {
            return things.get(t).sort == 'c' && !belt.contains(t) && beep - came[t] + 1 >= warmth;
        }

        List<Integer> toPack() {
            List<Integer> list = new ArrayList<>(heap);
            Collections.reverse(list);
            List<Integer> by = new ArrayList<>(laid);
            Collections.sort(by);
            list.addAll(by);
            list.addAll(belt);
            return list;
        }

        /** The best WAY to pack a list: fewest, heaviest, then its BAGS. */
        int[] least(List<Integer> list) {
            int ways = 1;
            for (int i = 0; i < list.size(); i++) {
                ways *= bags;
            }
            int[] best = null;
            for (int way = 0; way < ways; way++) {
                int[] now = new int[2 + list.size()];
                World w = twin();
                int part = ways;
                for (int i = 0; i < list.size(); i++) {
                    part /= bags;
                    now[2 + i] = way / part % bags;
                    w.pack(list.get(i), now[2 + i]);
                }
                now[0] = w.crushedMany();
                now[1] = w.heaviest();
                if (best == null || now[0] < best[0] || now[0] == best[0] && now[1] < best[1]) {
                    best = now;
                }
            }
            return best;
        }
    }

    private final int[][] rows = new int[8][];
    private final int[] lanes = new int[8];
    private StringBuilder tape = new StringBuilder();
    private World world;
    private final World[] images = new World[2];
    private final List<World> acts = new ArrayList<>();
    private final List<Integer> trace = new ArrayList<>();
    private int fault, status, faultPlace;

    private boolean row(int r) {
        return r >= 0 && r < 8;
    }

    private boolean thing(int t) {
        return world != null && t >= 0 && t < world.things.size();
    }

    private boolean bag(int b) {
        return world != null && b >= 0 && b < world.bags;
    }

    private boolean in(int v, int least, int most) {
        return v >= least && v <= most;
    }

    private int found(int number) {
        status = number;
        return -1000010 - number;
    }

    private int good(int answer) {
        status = 0;
        return answer;
    }

    private int bits(List<Integer> list) {
        int set = 0;
        for (int t : list) {
            set |= 1 << t;
        }
        return set;
    }

    private void act() {
        acts.add(world.twin());
        if (acts.size() > 24) {
            acts.remove(0);
        }
    }

    long call(String name, int... a) {
        switch (name) {
            case "row": return makeRow(a[0], a[1], a[2]);
            case "set": return set(a[0], a[1], a[2]);
            case "copy": return copy(a[0], a[1], a[2], a[3], a[4]);
            case "drop": return drop(a[0]);
            case "feed": return feed(a[0]);
            case "shop": return shop();
            case "fault": return fault;
            case "undo": return undo();
            case "beeps": return beeps(a[0]);
            case "pack": return pack(a[0]);
            case "layBy": return layBy();
            case "putIn": return putIn(a[0], a[1]);
            case "takeOut": return takeOut(a[0]);
            case "swap": return swap();
            case "thing": return ofThing(a[0], a[1]);
            case "bag": return ofBag(a[0], a[1]);
            case "stand": return stand(a[0]);
            case "least": return least(a[0]);
            case "torn": return torn();
            case "give": return give(a[0]);
            case "order": return order(a[0], a[1]);
            case "top": return top(a[0]);
            case "spare": return spare(a[0]);
            case "beside": return beside(a[0], a[1]);
            case "even": return even();
            case "astray": return astray(a[0], a[1]);
            case "heavy": return heavy(a[0], a[1], a[2]);
            case "who": return who(a[0], a[1], a[2], a[3]);
            case "colds": return colds(a[0]);
            case "tears": return tears(a[0], a[1], a[2]);
            case "drawn": return drawn(a[0], a[1], a[2]);
            case "image": return image(a[0]);
            case "restore": return restore(a[0]);
            case "kind": return thing(a[0]) ? kindOf(a[0]) : BAD;
            case "as": return as(a[0], a[1]);
            case "ask": return ask(a[0], a[1]);
            case "trace": return in(a[0], 0, trace.size() - 1) ? trace.get(a[0]) : NONE;
            case "count": return count(a[0]);
            case "status": return status;
            default: throw new IllegalArgumentException(name);
        }
    }

    private int makeRow(int r, int lane, int n) {
        if (!row(r) || !in(lane, 0, 2) || n > 40) {
            return BAD;
        }
        if (n < 0) {
            return found(4);
        }
        rows[r] = new int[n];
        lanes[r] = lane;
        return good(n);
    }

    private int set(int r, int i, int v) {
        if (!row(r)) {
            return BAD;
        }
        if (rows[r] == null) {
            return found(1);
        }
        if (!in(i, 0, rows[r].length - 1)) {
            return found(2);
        }
        rows[r][i] = lanes[r] == 0 ? (byte) v : lanes[r] == 1 ? (short) v : v;
        return good(rows[r][i]);
    }

    private int copy(int a, int i, int b, int j, int n) {
        if (!row(a) || !row(b)) {
            return BAD;
        }
        if (rows[a] == null || rows[b] == null) {
            return found(1);
        }
        if (lanes[a] != lanes[b]) {
            return found(5);
        }
        if (i < 0 || j < 0 || n < 0 || (long) i + n > rows[a].length || (long) j + n > rows[b].length) {
            return found(2);
        }
        int[] ahead = rows[a].clone();
        for (int k = 0; k < n; k++) {
            rows[b][j + k] = ahead[i + k];
        }
        return good(n);
    }

    private int drop(int r) {
        if (!row(r)) {
            return BAD;
        }
        if (rows[r] == null) {
            return found(1);
        }
        int had = rows[r].length;
        rows[r] = null;
        return good(had);
    }

    private int feed(int letter) {
        if (!in(letter, 0, 255)) {
            return BAD;
        }
        if (tape.length() == 120) {
            return FULL;
        }
        return tape.append((char) letter).length();
    }

    /** Finds the FAULT by cutting the tape into TOKENS first, and looking at them one by one then. */
    private int shop() {
        String text = tape.toString();
        tape = new StringBuilder();
        List<String> tokens = new ArrayList<>();
        List<Integer> places = new ArrayList<>();
        for (int i = 0; i < text.length();) {
            int end = i + 1;
            while (Character.digit(text.charAt(i), 10) >= 0 && end < text.length()
                && Character.digit(text.charAt(end), 10) >= 0) {
                end++;
            }
            tokens.add(text.substring(i, end));
            places.add(i);
            i = end;
        }
        tokens.add("");
        places.add(text.length());
        World w = new World();
        int number = parse(tokens, w);
        if (number != 0) {
            fault = number;
            return -1000100 - places.get(faultPlace);
        }
        for (int b = 0; b < w.bags; b++) {
            w.bag.add(new ArrayList<>());
        }
        world = w;
        acts.clear();
        return w.things.size();
    }

    private int parse(List<String> tokens, World w) {
        String[] law = {"e", "1-3", ",", "5-60", ",", "1-40", ";"};
        String[] one = {"tbrsc", "1-20", ",", "0-9", ";"};
        List<Integer> numbers = new ArrayList<>();
        char sort = 0;
        for (int i = 0; i < tokens.size(); i++) {
            faultPlace = i;
            String token = tokens.get(i);
            int at = i - law.length;
            if (token.isEmpty()) {
                return at >= one.length && at % one.length == 0 ? 0 : 1;
            }
            String want = at < 0 ? law[i] : one[at % one.length];
            if (want.contains("-")) {
                if (!token.matches("[0-9]{1,2}")) {
                    return 1;
                }
                String[] ends = want.split("-");
                int value = Integer.parseInt(token);
                if (value < Integer.parseInt(ends[0]) || value > Integer.parseInt(ends[1])) {
                    return 2;
                }
                numbers.add(value);
            } else if (token.length() != 1 || !want.contains(token)) {
                return 1;
            }
            if (at >= 0 && at % one.length == 0) {
                sort = token.charAt(0);
                if (w.things.size() == 7) {
                    return 3;
                }
            }
            if (at == -1) {
                w.bags = numbers.get(0);
                w.holds = numbers.get(1);
                w.warmth = numbers.get(2);
            }
            if (at >= 0 && at % one.length == one.length - 1) {
                int n = w.things.size();
                w.things.add(new Thing(n, sort, numbers.get(numbers.size() - 2), numbers.get(numbers.size() - 1)));
                w.belt.add(n);
            }
        }
        return 1;
    }

    private int undo() {
        if (acts.isEmpty()) {
            return STATE;
        }
        world = acts.remove(acts.size() - 1);
        return acts.size();
    }

    private int beeps(int n) {
        if (world == null) {
            return STATE;
        }
        if (!in(n, 1, 24)) {
            return BAD;
        }
        if (world.beep + n > 999) {
            return FULL;
        }
        for (int i = 0; i < n; i++) {
            act();
            world.beep();
        }
        return world.belt.size();
    }

    private int pack(int b) {
        if (world == null) {
            return STATE;
        }
        if (!bag(b)) {
            return BAD;
        }
        if (world.heap.isEmpty()) {
            return STATE;
        }
        act();
        int t = world.heap.get(world.heap.size() - 1);
        world.pack(t, b);
        return t;
    }

    private int layBy() {
        if (world == null || world.heap.isEmpty()) {
            return STATE;
        }
        act();
        int t = world.heap.remove(world.heap.size() - 1);
        world.laid.add(t);
        return t;
    }

    private int putIn(int t, int b) {
        if (!thing(t) || !bag(b)) {
            return BAD;
        }
        if (!world.laid.contains(t)) {
            return STATE;
        }
        act();
        List<Integer> pile = world.bag.get(b);
        world.pack(t, b);
        return pile.size() < 2 ? 0 : world.load(pile.get(pile.size() - 2));
    }

    private int takeOut(int b) {
        if (world == null) {
            return STATE;
        }
        if (!bag(b)) {
            return BAD;
        }
        if (world.bag.get(b).isEmpty()) {
            return STATE;
        }
        act();
        List<Integer> pile = world.bag.get(b);
        int t = pile.remove(pile.size() - 1);
        world.laid.add(t);
        return t;
    }

    private int swap() {
        if (world == null || world.belt.size() < 2) {
            return STATE;
        }
        act();
        Collections.swap(world.belt, 0, 1);
        return world.belt.get(0);
    }

    private int ofThing(int t, int what) {
        if (!thing(t) || !in(what, 0, 7)) {
            return BAD;
        }
        Thing one = world.things.get(t);
        int place = world.belt.contains(t) ? 0 : world.heap.contains(t) ? 1 : world.laid.contains(t) ? 2
            : 3 + world.bagOf(t);
        return new int[] {one.weight, one.soft, place, world.load(t), one.press(), one.bears(),
            world.crushed[t] ? 1 : 0, world.warm(t) ? 1 : 0}[what];
    }

    private int ofBag(int b, int what) {
        if (!bag(b) || !in(what, 0, 3)) {
            return BAD;
        }
        List<Integer> pile = world.bag.get(b);
        return new int[] {world.weighs(b), bits(pile), pile.isEmpty() ? NONE : pile.get(pile.size() - 1),
            world.weighs(b) > world.holds ? 1 : 0}[what];
    }

    private int stand(int what) {
        if (world == null) {
            return STATE;
        }
        if (!in(what, 0, 6)) {
            return BAD;
        }
        int crushed = 0;
        int warm = 0;
        for (Thing t : world.things) {
            crushed |= world.crushed[t.number] ? 1 << t.number : 0;
            warm |= world.warm(t.number) ? 1 << t.number : 0;
        }
        int first = world.belt.isEmpty() ? NONE : world.belt.get(0);
        int top = world.heap.isEmpty() ? NONE : world.heap.get(world.heap.size() - 1);
        return new int[] {bits(world.belt), bits(world.heap), bits(world.laid), crushed, warm, first, top}[what];
    }

    private int least(int k) {
        if (world == null) {
            return STATE;
        }
        if (k < -2 || k >= world.things.size()) {
            return BAD;
        }
        List<Integer> list = world.toPack();
        int[] best = world.least(list);
        if (k < 0) {
            return best[-1 - k];
        }
        return list.contains(k) ? best[2 + list.indexOf(k)] : NONE;
    }

    private int torn() {
        return world == null ? STATE : torn(world, world.toPack());
    }

    private int torn(World w, List<Integer> list) {
        if (list.isEmpty()) {
            return w.tornMany();
        }
        int best = 99;
        for (int b = 0; b < w.bags; b++) {
            World then = w.twin();
            then.pack(list.get(0), b);
            best = Math.min(best, torn(then, list.subList(1, list.size())));
        }
        return best;
    }

    private int give(int what) {
        if (world == null) {
            return STATE;
        }
        if (!in(what, 0, 1)) {
            return BAD;
        }
        int who = NONE;
        int many = NONE;
        List<Integer> byNumbers = world.toPack();
        Collections.sort(byNumbers);
        for (int t : byNumbers) {
            List<Integer> others = world.toPack();
            others.remove((Integer) t);
            int crushed = world.least(others)[0];
            if (who == NONE || crushed < many) {
                who = t;
                many = crushed;
            }
        }
        return what == 0 ? who : many;
    }

    private int order(int b, int k) {
        if (world == null) {
            return STATE;
        }
        if (!bag(b) || k < -1) {
            return BAD;
        }
        List<Integer> sorted = new ArrayList<>(world.belt);
        Collections.sort(sorted);
        List<List<Integer>> orders = new ArrayList<>();
        permute(new ArrayList<>(), sorted, orders);
        int fewest = 99;
        List<Integer> best = null;
        for (List<Integer> one : orders) {
            World w = world.twin();
            for (int t : one) {
                w.pack(t, b);
            }
            if (w.crushedMany() < fewest) {
                fewest = w.crushedMany();
                best = one;
            }
        }
        return k < 0 ? fewest : k < best.size() ? best.get(k) : NONE;
    }

    private void permute(List<Integer> done, List<Integer> rest, List<List<Integer>> all) {
        if (rest.isEmpty()) {
            all.add(done);
        }
        for (int t : rest) {
            List<Integer> next = new ArrayList<>(done);
            next.add(t);
            List<Integer> others = new ArrayList<>(rest);
            others.remove((Integer) t);
            permute(next, others, all);
        }
    }

    private int top(int b) {
        if (!bag(b)) {
            return BAD;
        }
        int set = 0;
        for (int t : world.toPack()) {
            World w = world.twin();
            w.pack(t, b);
            set |= w.crushedMany() == world.crushedMany() ? 1 << t : 0;
        }
        return set;
    }

    private int spare(int t) {
        if (!thing(t)) {
            return BAD;
        }
        if (world.bagOf(t) < 0) {
            return STATE;
        }
        return world.crushed[t] ? 0 : world.things.get(t).bears() - world.load(t);
    }

    private int beside(int t, int up) {
        if (!thing(t) || !in(up, 0, 1)) {
            return BAD;
        }
        int b = world.bagOf(t);
        if (b < 0) {
            return 0;
        }
        List<Integer> pile = world.bag.get(b);
        int at = pile.indexOf(t);
        return bits(up == 1 ? pile.subList(at + 1, pile.size()) : pile.subList(0, at));
    }

    private int even() {
        if (world == null) {
            return STATE;
        }
        int least = 999;
        for (int b = 0; b < world.bags; b++) {
            least = Math.min(least, world.weighs(b));
        }
        return world.heaviest() - least;
    }

    private int seek(int r, int i, int n) {
        if (rows[r] == null) {
            return 1;
        }
        return i < 0 || (long) i + n > rows[r].length ? 2 : 0;
    }

    private int astray(int r, int i) {
        if (world == null) {
            return STATE;
        }
        if (!row(r)) {
            return BAD;
        }
        if (seek(r, i, world.bags) != 0) {
            return found(seek(r, i, world.bags));
        }
        int set = weighed(world, r, i) ? 128 : 0;
        for (Thing t : world.things) {
            World w = world.twin();
            int b = w.bagOf(t.number);
            if (b >= 0) {
                w.bag.get(b).remove((Integer) t.number);
                set |= weighed(w, r, i) ? 1 << t.number : 0;
            }
        }
        return good(set);
    }

    private boolean weighed(World w, int r, int i) {
        for (int b = 0; b < w.bags; b++) {
            if (rows[r][i + b] != w.weighs(b)) {
                return false;
            }
        }
        return true;
    }

    private int heavy(int t, int r, int i) {
        if (!thing(t) || !row(r)) {
            return BAD;
        }
        if (seek(r, i, world.bags) != 0) {
            return found(seek(r, i, world.bags));
        }
        int set = 0;
        for (int weight = 1; weight <= 20; weight++) {
            World w = world.twin();
            w.things.set(t, new Thing(t, 't', weight, 0));
            set |= weighed(w, r, i) ? 1 << weight : 0;
        }
        return good(set);
    }

    private int who(int t, int which, int r, int i) {
        if (!thing(t) || !in(which, 0, 1) || !row(r)) {
            return BAD;
        }
        if (seek(r, i, world.things.size()) != 0) {
            return found(seek(r, i, world.things.size()));
        }
        int set = 0;
        for (int v = which; v <= (which == 0 ? 9 : 5); v++) {
            World w = world.twin();
            if (which == 0) {
                w.things.get(t).soft = v;
            } else {
                w.things.get(t).sort = "?tbrsc".charAt(v);
            }
            boolean fits = true;
            for (Thing one : w.things) {
                fits &= rows[r][i + one.number] == (w.load(one.number) > one.bears() ? 1 : 0);
            }
            set |= fits ? 1 << v : 0;
        }
        return good(set);
    }

    private int colds(int what) {
        if (world == null) {
            return STATE;
        }
        if (!in(what, 0, 1)) {
            return BAD;
        }
        List<Integer> pairs = new ArrayList<>();
        for (List<Integer> pile : world.bag) {
            for (int a : pile) {
                for (int b : pile) {
                    if (a < b && world.things.get(a).sort == 'c' && world.things.get(b).sort == 'c') {
                        pairs.add(10 * a + b);
                    }
                }
            }
        }
        return what == 0 ? pairs.size() : pairs.isEmpty() ? NONE : Collections.min(pairs);
    }

    private long tears(int k, int p, int what) {
        if (world == null) {
            return STATE;
        }
        if (!in(k, 0, 7) || !in(p, 0, 10) || !in(what, 0, 1)) {
            return BAD;
        }
        int good = 0;
        for (int draw = 0; draw < 1000; draw++) {
            int[] figure = {draw % 10, draw / 10 % 10, draw / 100};
            int home = 0;
            for (int b = 0; b < world.bags; b++) {
                if (world.weighs(b) <= world.holds && figure[b] >= p) {
                    for (int t : world.bag.get(b)) {
                        home += world.crushed[t] ? 0 : 1;
                    }
                }
            }
            good += home >= k ? 1 : 0;
        }
        int common = BigInteger.valueOf(good).gcd(BigInteger.valueOf(1000)).intValue();
        return what == 0 ? good / common : 1000 / common;
    }

    private int drawn(int n, int seed, int what) {
        if (world == null) {
            return STATE;
        }
        if (!in(n, 0, 60) || !in(seed, 1, 999999) || !in(what, 0, 1)) {
            return BAD;
        }
        World w = world.twin();
        BigInteger x = BigInteger.valueOf(seed);
        for (int i = 0; i < n; i++) {
            w.beep();
            x = x.multiply(BigInteger.valueOf(16807)).mod(BigInteger.valueOf(2147483647));
            if (x.intValue() % 3 != 0 && !w.heap.isEmpty()) {
                w.pack(w.heap.get(w.heap.size() - 1), x.intValue() % w.bags);
            }
        }
        return what == 0 ? w.crushedMany() : w.all();
    }

    private int image(int k) {
        if (!in(k, 0, 1)) {
            return BAD;
        }
        if (world == null) {
            return STATE;
        }
        images[k] = world.twin();
        return 1;
    }

    private int restore(int k) {
        if (!in(k, 0, 1)) {
            return BAD;
        }
        if (images[k] == null) {
            return STATE;
        }
        world = images[k].twin();
        acts.clear();
        return 1;
    }

    private int kindOf(int t) {
        return "?tbrsc".indexOf(world.things.get(t).sort);
    }

    private int as(int t, int kind) {
        if (!thing(t) || !in(kind, 0, 5)) {
            return BAD;
        }
        String[] kinds = {"", "01", "012", "013", "04", "045"};
        return kinds[kindOf(t)].indexOf('0' + kind) >= 0 ? good(t) : found(3);
    }

    /** The machine's own rules are the document's here: bodies that override one another. */
    private class Item {
        final int number;

        Item(int number) {
            this.number = number;
        }

        int size() {
            trace.add(10);
            return world.things.get(number).weight;
        }

        int mark() {
            trace.add(20);
            return number;
        }
    }

    private class Tin extends Item {
        Tin(int number) {
            super(number);
        }

        @Override
        int size() {
            trace.add(11);
            return super.size() + mark();
        }

        @Override
        int mark() {
            trace.add(21);
            return super.mark() + world.load(number);
        }
    }

    private final class Bottle extends Tin {
        Bottle(int number) {
            super(number);
        }

        @Override
        int size() {
            trace.add(12);
            return 0 - super.size();
        }

        @Override
        int mark() {
            trace.add(24);
            return super.mark() * 2;
        }
    }

    private final class Roller extends Tin {
        Roller(int number) {
            super(number);
        }

        @Override
        int mark() {
            trace.add(22);
            return super.mark() - 1000;
        }
    }

    private class Soft extends Item {
        Soft(int number) {
            super(number);
        }

        @Override
        int size() {
            trace.add(13);
            return super.size() - 100;
        }

        @Override
        int mark() {
            trace.add(23);
            return super.mark() - size();
        }
    }

    private final class Cold extends Soft {
        Cold(int number) {
            super(number);
        }

        @Override
        int size() {
            trace.add(14);
            return super.size() * 2;
        }
    }

    private int ask(int t, int what) {
        if (!thing(t) || !in(what, 0, 1)) {
            return BAD;
        }
        trace.clear();
        char sort = world.things.get(t).sort;
        Item item = sort == 't' ? new Tin(t) : sort == 'b' ? new Bottle(t) : sort == 'r' ? new Roller(t)
            : sort == 's' ? new Soft(t) : new Cold(t);
        return what == 0 ? item.size() : item.mark();
    }

    private int count(int what) {
        if (!in(what, 0, 7)) {
            return BAD;
        }
        int present = 0;
        for (int[] r : rows) {
            present += r == null ? 0 : 1;
        }
        if (world == null) {
            return new int[] {present, 0, 0, 0, 0, 0, 0, tape.length()}[what];
        }
        return new int[] {present, world.things.size(), world.bags, world.beep, world.crushedMany(), world.all(),
            acts.size(), tape.length()}[what];
    }
}
