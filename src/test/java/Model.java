import java.util.ArrayList;
import java.util.List;
import java.util.Set;
import java.util.TreeMap;
import java.util.TreeSet;

/**
 * The document once more, as plainly as the whole Java library allows and without a thought of
 * room or speed: what ModelTest holds the class against.
 */
final class Model {
    static final int NONE = -1;
    static final int HIDDEN = -1000000;

    static final class House {
        int place;
        int height;
        int bears;
        int kind;
        int burnt;

        House copy() {
            House h = new House();
            h.place = place;
            h.height = height;
            h.bears = bears;
            h.kind = kind;
            h.burnt = burnt;
            return h;
        }
    }

    static final class Wire {
        int a;
        int b;
        int salt;
        boolean cut;

        Wire(int a, int b, int salt) {
            this.a = a;
            this.b = b;
            this.salt = salt;
        }

        Wire copy() {
            Wire w = new Wire(a, b, salt);
            w.cut = cut;
            return w;
        }

        boolean live() {
            return !cut && salt < 9;
        }

        boolean touches(int h) {
            return a == h || b == h;
        }
    }

    static final class World {
        List<House> houses = new ArrayList<>();
        List<Wire> wires = new ArrayList<>();
        List<int[]> log = new ArrayList<>();
        int copper;
        int dry;
        int summer;

        World copy() {
            World w = new World();
            for (House h : houses) {
                w.houses.add(h.copy());
            }
            for (Wire x : wires) {
                w.wires.add(x.copy());
            }
            w.log.addAll(log);
            w.copper = copper;
            w.dry = dry;
            w.summer = summer;
            return w;
        }

        int far(int a, int b) {
            return Math.abs(houses.get(a).place - houses.get(b).place);
        }

        int price(int a, int b) {
            return far(a, b) == 0 ? 1 : far(a, b);
        }

        boolean joined(int a, int b) {
            for (Wire w : wires) {
                if (!w.cut && w.touches(a) && w.touches(b)) {
                    return true;
                }
            }
            return false;
        }

        boolean chapels(int a, int b) {
            return houses.get(a).kind == 2 && houses.get(b).kind == 2;
        }
    }

    static final class Outcome {
        int[] kept = new int[8];
        int lost;
        int burns;
    }

    StringBuilder tape = new StringBuilder();
    World now = new World();
    List<World> undo = new ArrayList<>();
    World image;
    List<String> laws = new ArrayList<>();
    int holds = NONE;
    int storms = 5;
    int kites = 0;
    int[] status = new int[5];
    List<int[]> scorched = new ArrayList<>();
    List<int[]> tests = new ArrayList<>();

    // ---- texts, by trying every way a text could go on

    /** The furthest place at which a sign was looked for and another one stood. */
    private int furthest;
    private String s;

    private Set<Integer> sign(Set<Integer> from, String oneOf) {
        Set<Integer> to = new TreeSet<>();
        for (int start : from) {
            int at = start;
            while (at < s.length() && s.charAt(at) == ' ') {
                at++;
            }
            furthest = Math.max(furthest, at);
            if (at < s.length() && oneOf.indexOf(s.charAt(at)) >= 0) {
                to.add(at + 1);
            }
        }
        return to;
    }

    private Set<Integer> number(Set<Integer> from, int digits) {
        Set<Integer> to = new TreeSet<>();
        for (int start : from) {
            for (int first : sign(Set.of(start), "0123456789")) {
                int at = first;
                while (at < s.length() && Character.isDigit(s.charAt(at)) && s.charAt(at) < 128) {
                    at++;
                }
                if (at - first + 1 > digits) {
                    furthest = Math.max(furthest, first - 1 + digits);
                } else {
                    to.add(at);
                }
            }
        }
        return to;
    }

    private static Set<Integer> both(Set<Integer> a, Set<Integer> b) {
        Set<Integer> c = new TreeSet<>(a);
        c.addAll(b);
        return c;
    }

    private Set<Integer> atom(Set<Integer> from, int depth) {
        if (from.isEmpty()) {
            return from;
        }
        Set<Integer> to = both(number(from, 4), sign(from, "ptlknd"));
        if (depth < 6) {
            to = both(to, sign(sum(sign(from, "["), depth + 1), "]"));
        }
        return to;
    }

    private Set<Integer> term(Set<Integer> from, int depth) {
        Set<Integer> all = new TreeSet<>();
        Set<Integer> at = atom(from, depth);
        while (!at.isEmpty()) {
            all.addAll(at);
            at = atom(sign(at, "*/"), depth);
        }
        return all;
    }

    private Set<Integer> sum(Set<Integer> from, int depth) {
        Set<Integer> all = new TreeSet<>();
        Set<Integer> at = term(from, depth);
        while (!at.isEmpty()) {
            all.addAll(at);
            at = term(sign(at, "+-"), depth);
        }
        return all;
    }

    private Set<Integer> unit(Set<Integer> from, int depth) {
        if (from.isEmpty()) {
            return from;
        }
        Set<Integer> to = sum(sign(sum(from, depth), "=<>"), depth);
        if (depth < 6) {
            to = both(to, unit(sign(from, "!"), depth + 1));
            to = both(to, sign(condition(sign(from, "("), depth + 1), ")"));
        }
        return to;
    }

    private Set<Integer> truth(Set<Integer> from, int depth) {
        Set<Integer> all = new TreeSet<>();
        Set<Integer> at = unit(from, depth);
        while (!at.isEmpty()) {
            all.addAll(at);
            at = unit(sign(at, "&"), depth);
        }
        return all;
    }

    private Set<Integer> condition(Set<Integer> from, int depth) {
        Set<Integer> all = new TreeSet<>();
        Set<Integer> at = truth(from, depth);
        while (!at.isEmpty()) {
            all.addAll(at);
            at = truth(sign(at, "|"), depth);
        }
        return all;
    }

    private boolean endsAt(Set<Integer> ends) {
        for (int end : ends) {
            int at = end;
            while (at < s.length() && s.charAt(at) == ' ') {
                at++;
            }
            if (at == s.length()) {
                return true;
            }
            furthest = Math.max(furthest, at);
        }
        return false;
    }

    int lawFault(String text) {
        s = text;
        furthest = 0;
        Set<Integer> all = new TreeSet<>();
        Set<Integer> at = Set.of(0);
        while (!at.isEmpty()) {
            Set<Integer> behind = sign(sign(at, "y"), ":");
            Set<Integer> ends = both(sum(behind, 0), sum(sign(condition(behind, 0), "?"), 0));
            all.addAll(ends);
            at = sign(ends, ";");
        }
        return endsAt(all) ? NONE : furthest;
    }

    /** A belt's fault by trying: the places of its clauses are told by their own bounds. */
    int beltFault(String text) {
        World world = new World();
        return beltFault(text, world);
    }

    private int beltFault(String text, World world) {
        s = text;
        world.copper = 20;
        int rules = 0;
        int at = 0;
        while (true) {
            at = skip(at);
            if (at == s.length()) {
                return at;
            }
            char sort = s.charAt(at);
            boolean may = sort == 's' && rules == 0 || sort == 'h' && world.houses.size() < 8
                || sort == 'w' && world.wires.size() < 8;
            if (!may) {
                return at;
            }
            rules += sort == 's' ? 1 : 0;
            TreeMap<Character, Integer> items = new TreeMap<>();
            at = items(at + 1, sort, items);
            if (at < 0) {
                return -at - 1;
            }
            tell(world, sort, items);
            at = skip(at);
            if (at == s.length()) {
                return whole(world) ? NONE : at;
            }
            if (s.charAt(at) != ';') {
                return at;
            }
            at++;
        }
    }

    private int skip(int at) {
        while (at < s.length() && s.charAt(at) == ' ') {
            at++;
        }
        return at;
    }

    /** Where the items end; -1 less where they are wrong. */
    private int items(int start, char sort, TreeMap<Character, Integer> items) {
        String letters = sort == 's' ? "cd" : sort == 'h' ? "xtlk" : "abs";
        int at = start;
        while (true) {
            int next = skip(at);
            if (next == s.length() || letters.indexOf(s.charAt(next)) < 0) {
                return at;
            }
            char letter = s.charAt(next);
            if (items.containsKey(letter)) {
                return -next - 1;
            }
            int first = skip(next + 1);
            int end = first;
            while (end < s.length() && "0123456789".indexOf(s.charAt(end)) >= 0) {
                end++;
            }
            if (end == first) {
                return -first - 1;
            }
            if (end - first > 2) {
                return -(first + 2) - 1;
            }
            int value = Integer.parseInt(s.substring(first, end));
            int low = letter == 't' || letter == 'l' ? 1 : 0;
            int high = letter == 'c' || letter == 'l' ? 99 : letter == 'x' ? 20
                : letter == 'k' ? 3 : letter == 'a' || letter == 'b' ? 7 : 9;
            if (value < low || value > high) {
                return -(end - 1) - 1;
            }
            items.put(letter, value);
            at = end;
        }
    }

    private static void tell(World world, char sort, TreeMap<Character, Integer> items) {
        if (sort == 's') {
            world.copper = items.getOrDefault('c', 20);
            world.dry = items.getOrDefault('d', 0);
        } else if (sort == 'h') {
            House h = new House();
            h.place = items.getOrDefault('x', 0);
            h.height = items.getOrDefault('t', 3);
            h.bears = items.getOrDefault('l', 20);
            h.kind = items.getOrDefault('k', 0);
            world.houses.add(h);
        } else {
            world.wires.add(new Wire(items.getOrDefault('a', 0), items.getOrDefault('b', 1),
                items.getOrDefault('s', 0)));
        }
    }

    private static boolean whole(World world) {
        if (world.houses.size() < 2) {
            return false;
        }
        Set<Integer> pairs = new TreeSet<>();
        for (Wire w : world.wires) {
            if (w.a == w.b || Math.max(w.a, w.b) >= world.houses.size() || world.chapels(w.a, w.b)) {
                return false;
            }
            if (!pairs.add(10 * Math.min(w.a, w.b) + Math.max(w.a, w.b))) {
                return false;
            }
        }
        return true;
    }

    // ---- laws, reckoned from their texts each time

    private int at;
    private TreeMap<Character, Integer> letters;

    private char peek() {
        return at < s.length() ? s.charAt(at) : 0;
    }

    private static long hold(long x) {
        return Math.max(-1000000, Math.min(1000000, x));
    }

    private long atomWorth() {
        char c = peek();
        at++;
        if (c == '[') {
            long x = sumWorth();
            at++;
            return x;
        }
        if (letters.containsKey(c)) {
            return letters.get(c);
        }
        long x = c - '0';
        while (Character.isDigit(peek())) {
            x = 10 * x + peek() - '0';
            at++;
        }
        return x;
    }

    private long termWorth() {
        long x = atomWorth();
        while (peek() == '*' || peek() == '/') {
            char c = peek();
            at++;
            long y = atomWorth();
            x = hold(c == '*' ? x * y : y == 0 ? 0 : x / y);
        }
        return x;
    }

    private long sumWorth() {
        long x = termWorth();
        while (peek() == '+' || peek() == '-') {
            char c = peek();
            at++;
            long y = termWorth();
            x = hold(c == '+' ? x + y : x - y);
        }
        return x;
    }

    private boolean unitHolds() {
        if (peek() == '!') {
            at++;
            return !unitHolds();
        }
        if (peek() == '(') {
            at++;
            boolean is = conditionHolds();
            at++;
            return is;
        }
        long x = sumWorth();
        char c = peek();
        at++;
        long y = sumWorth();
        return c == '=' ? x == y : c == '<' ? x < y : x > y;
    }

    private boolean truthHolds() {
        boolean is = unitHolds();
        while (peek() == '&') {
            at++;
            boolean also = unitHolds();
            is = is && also;
        }
        return is;
    }

    private boolean conditionHolds() {
        boolean is = truthHolds();
        while (peek() == '|') {
            at++;
            boolean also = truthHolds();
            is = is || also;
        }
        return is;
    }

    long worth(String law, TreeMap<Character, Integer> told) {
        letters = told;
        for (String clause : law.replace(" ", "").split(";")) {
            s = clause;
            at = 2;
            int question = clause.indexOf('?');
            if (question >= 0) {
                boolean is = conditionHolds();
                if (!is) {
                    continue;
                }
                at = question + 1;
            }
            return sumWorth();
        }
        return 0;
    }

    // ---- strokes

    Outcome outcome(World world, int struck, int v) {
        Outcome out = new Outcome();
        List<int[]> parts = new ArrayList<>();
        parts.add(new int[] {struck, NONE, v});
        Set<Integer> seen = new TreeSet<>();
        while (!parts.isEmpty()) {
            int[] part = parts.remove(0);
            int h = part[0];
            int p = part[2];
            List<Integer> over = new ArrayList<>();
            for (int w = 0; w < world.wires.size(); w++) {
                if (w != part[1] && world.wires.get(w).live() && world.wires.get(w).touches(h)) {
                    over.add(w);
                }
            }
            boolean first = seen.add(h);
            if (!first || over.isEmpty()) {
                out.kept[h] += p;
                continue;
            }
            int n = over.size();
            long keep = p / (n + 1) + world.dry;
            if (holds != NONE) {
                House house = world.houses.get(h);
                TreeMap<Character, Integer> told = new TreeMap<>();
                told.put('p', p);
                told.put('t', house.height);
                told.put('l', house.bears);
                told.put('k', house.kind);
                told.put('n', n);
                told.put('d', world.dry);
                keep = worth(laws.get(holds), told);
            }
            keep = keep < 0 ? 0 : keep > p ? p : keep;
            int rest = p - (int) keep;
            out.kept[h] += (int) keep + rest % n;
            for (int w : over) {
                Wire wire = world.wires.get(w);
                int goes = rest / n;
                int gone = goes <= wire.salt ? goes : wire.salt;
                out.lost += gone;
                if (goes - gone > 0) {
                    parts.add(new int[] {wire.a == h ? wire.b : wire.a, w, goes - gone});
                }
            }
        }
        for (int h = 0; h < world.houses.size(); h++) {
            if (out.kept[h] > world.houses.get(h).bears) {
                out.burns |= 1 << h;
            }
        }
        return out;
    }

    // ---- the face

    boolean isHouse(int h) {
        return h >= 0 && h < now.houses.size();
    }

    boolean isWire(int w) {
        return w >= 0 && w < now.wires.size();
    }

    static boolean isV(int v) {
        return v >= 1 && v <= 999;
    }

    static boolean bit(int x) {
        return x == 0 || x == 1;
    }

    int houseCount() {
        return now.houses.size();
    }

    int refuse(int sort) {
        status[sort]++;
        return NONE;
    }

    void act() {
        undo.add(now.copy());
        if (undo.size() > 40) {
            undo.remove(0);
        }
    }

    int feed(int... five) {
        StringBuilder more = new StringBuilder();
        for (int x : five) {
            for (int i = 3; i >= 0; i--) {
                int b = (x >>> (8 * i)) & 255;
                if (b != 0) {
                    more.append((char) b);
                }
            }
        }
        if (tape.length() + more.length() > 240) {
            return NONE;
        }
        tape.append(more);
        return tape.length();
    }

    boolean end(int n) {
        if (n < 0 || n > tape.length()) {
            return false;
        }
        tape.setLength(n);
        return true;
    }

    int fault(int sort) {
        return sort == 0 ? beltFault(tape.toString()) : sort == 1 ? lawFault(tape.toString()) : -2;
    }

    int text(int sort) {
        if (!bit(sort) || fault(sort) != NONE || sort == 1 && laws.size() == 4) {
            return NONE;
        }
        String text = tape.toString();
        tape.setLength(0);
        if (sort == 1) {
            laws.add(text);
            return laws.size() - 1;
        }
        now = new World();
        beltFault(text, now);
        undo.clear();
        image = null;
        scorched.clear();
        tests.clear();
        return houseCount();
    }

    /** NONE where the call throws. */
    int house(int h, int what) {
        if (!isHouse(h) || what < 0 || what > 5) {
            return NONE;
        }
        House x = now.houses.get(h);
        int liveOnes = 0;
        for (Wire w : now.wires) {
            liveOnes += w.live() && w.touches(h) ? 1 : 0;
        }
        return new int[] {x.place, x.height, x.bears, x.kind, x.burnt, liveOnes}[what];
    }

    int wire(int w, int what) {
        if (!isWire(w) || what < 0 || what > 4) {
            return NONE;
        }
        Wire x = now.wires.get(w);
        return new int[] {x.a, x.b, x.salt, x.cut ? 1 : 0, x.live() ? 1 : 0}[what];
    }

    boolean law(int law) {
        if (law < -1 || law >= laws.size()) {
            return false;
        }
        holds = law;
        return true;
    }

    int doStrike(int h, int v) {
        int burns = outcome(now, h, v).burns;
        for (int i = 0; i < houseCount(); i++) {
            if ((burns >> i & 1) == 1) {
                House x = now.houses.get(i);
                x.burnt = Math.min(99, x.burnt + 1);
                x.bears = Math.max(1, x.bears - 1);
            }
        }
        now.log.add(0, new int[] {h, v, burns});
        if (now.log.size() > 60) {
            now.log.remove(60);
        }
        return burns;
    }

    int strike(int h, int v) {
        if (!isHouse(h)) {
            return refuse(0);
        }
        if (!isV(v)) {
            return refuse(1);
        }
        act();
        return doStrike(h, v);
    }

    int lay(int a, int b) {
        if (!isHouse(a) || !isHouse(b) || a == b) {
            return refuse(0);
        }
        if (now.joined(a, b) || now.chapels(a, b) || now.wires.size() == 16) {
            return refuse(2);
        }
        if (now.copper < now.price(a, b)) {
            return refuse(4);
        }
        act();
        now.copper -= now.price(a, b);
        now.wires.add(new Wire(a, b, 0));
        return now.wires.size() - 1;
    }

    int cut(int w) {
        if (!isWire(w)) {
            return refuse(0);
        }
        if (now.wires.get(w).cut) {
            return refuse(3);
        }
        act();
        Wire x = now.wires.get(w);
        x.cut = true;
        now.copper = Math.min(99, now.copper + now.price(x.a, x.b) / 2);
        return now.copper;
    }

    int scrape(int w) {
        if (!isWire(w)) {
            return refuse(0);
        }
        if (now.wires.get(w).cut || now.wires.get(w).salt == 0) {
            return refuse(3);
        }
        if (now.copper == 0) {
            return refuse(4);
        }
        act();
        now.wires.get(w).salt = 0;
        return --now.copper;
    }

    int ground(int h) {
        if (!isHouse(h)) {
            return refuse(0);
        }
        if (now.copper < 5) {
            return refuse(4);
        }
        act();
        now.copper -= 5;
        House x = now.houses.get(h);
        x.bears = Math.min(99, x.bears + 10);
        return x.bears;
    }

    void pass() {
        for (Wire w : now.wires) {
            if (!w.cut) {
                w.salt = Math.min(9, w.salt + 1);
            }
        }
        now.copper = Math.min(99, now.copper + 3);
        now.summer++;
    }

    int summers(int n) {
        if (houseCount() == 0) {
            return refuse(0);
        }
        if (n < 1 || n > 60 || now.summer + n > 999) {
            return refuse(1);
        }
        for (int i = 0; i < n; i++) {
            act();
            pass();
        }
        return now.summer;
    }

    boolean set(int what, int v) {
        if (!bit(what) || v < 0 || v > 9 || v == (what == 0 ? storms : kites)) {
            return false;
        }
        if (what == 0) {
            storms = v;
        } else {
            kites = v;
        }
        return true;
    }

    private long x;

    private int draw(int m) {
        x = x * 6364136223846793005L + 1442695040888963407L;
        return (int) ((x >>> 33) % m);
    }

    int decades(int n, long seed) {
        if (houseCount() == 0 || n < 1 || n > 60 || now.summer + n > 999) {
            return NONE;
        }
        x = seed;
        for (int i = 0; i < n; i++) {
            act();
            if (draw(10) < storms) {
                List<Integer> roofs = new ArrayList<>();
                for (int h = 0; h < houseCount(); h++) {
                    for (int j = 0; j < now.houses.get(h).height; j++) {
                        roofs.add(h);
                    }
                }
                int h = roofs.get(draw(roofs.size()));
                int v = draw(99) + 1;
                doStrike(h, v);
            }
            if (draw(10) < kites) {
                if (!now.wires.isEmpty()) {
                    now.wires.get(draw(now.wires.size())).cut = true;
                }
            }
            pass();
        }
        return now.summer;
    }

    int status(int what) {
        return what < 0 || what > 4 ? NONE : status[what];
    }

    int undo() {
        if (undo.isEmpty()) {
            return NONE;
        }
        now = undo.remove(undo.size() - 1);
        return undo.size();
    }

    int log(int i, int what) {
        return i < 0 || i >= now.log.size() || what < 0 || what > 2 ? NONE : now.log.get(i)[what];
    }

    int keeps(int struck, int v, int h) {
        return isHouse(struck) && isHouse(h) && isV(v) ? outcome(now, struck, v).kept[h] : NONE;
    }

    int burning(int h, int v) {
        return isHouse(h) && isV(v) ? outcome(now, h, v).burns : NONE;
    }

    int lost(int h, int v) {
        return isHouse(h) && isV(v) ? outcome(now, h, v).lost : NONE;
    }

    /** All ways to be wed, as rows, by trying every number for every house. */
    private void rows(List<Integer> row, List<List<Integer>> all) {
        int n = houseCount();
        if (row.size() == n) {
            int alone = 0;
            for (int h = 0; h < n; h++) {
                int p = row.get(h);
                if (row.get(p) != h || p != h && now.chapels(p, h)) {
                    return;
                }
                alone += p == h ? 1 : 0;
            }
            if (alone == n % 2) {
                all.add(new ArrayList<>(row));
            }
            return;
        }
        for (int p = 0; p < n; p++) {
            if (p < row.size() && row.get(p) != row.size() || row.contains(p)) {
                continue;
            }
            row.add(p);
            rows(row, all);
            row.remove(row.size() - 1);
        }
    }

    int couples(int what) {
        if (houseCount() == 0 || !bit(what)) {
            return NONE;
        }
        List<List<Integer>> all = new ArrayList<>();
        rows(new ArrayList<>(), all);
        int least = Integer.MAX_VALUE;
        int leastRow = NONE;
        for (List<Integer> row : all) {
            int sum = 0;
            int digits = 0;
            for (int h = 0; h < row.size(); h++) {
                sum += now.far(h, row.get(h));
                digits = 10 * digits + row.get(h);
            }
            if (sum < least || sum == least && digits < leastRow) {
                least = sum;
                leastRow = digits;
            }
        }
        return all.isEmpty() ? NONE : what == 0 ? least / 2 : leastRow;
    }

    int marry(int h, int v, int what) {
        if (!isHouse(h) || !isV(v) || !bit(what)) {
            return NONE;
        }
        TreeMap<Integer, Integer> ways = new TreeMap<>();
        for (int a = 0; a < houseCount(); a++) {
            for (int b = a + 1; b < houseCount(); b++) {
                if (now.joined(a, b) || now.chapels(a, b) || now.wires.size() >= 16
                    || now.copper < now.price(a, b)) {
                    continue;
                }
                World then = now.copy();
                then.wires.add(new Wire(a, b, 0));
                ways.put(100 * Integer.bitCount(outcome(then, h, v).burns) + 10 * a + b, 0);
            }
        }
        return ways.isEmpty() ? NONE : what == 0 ? ways.firstKey() % 100 : ways.firstKey() / 100;
    }

    World without(int bits) {
        World then = now.copy();
        for (int w = 0; w < then.wires.size(); w++) {
            if ((bits >> w & 1) == 1) {
                then.wires.get(w).cut = true;
            }
        }
        return then;
    }

    int parting(int h, int v, int what) {
        if (!isHouse(h) || !isV(v) || !bit(what)) {
            return NONE;
        }
        long least = Long.MAX_VALUE;
        for (int bits = 0; bits < 1 << now.wires.size(); bits++) {
            if (Integer.bitCount(bits) > 2 || (bits & uncut()) != bits) {
                continue;
            }
            long burns = Integer.bitCount(outcome(without(bits), h, v).burns);
            least = Math.min(least, burns << 32 | (long) Integer.bitCount(bits) << 28 | bits);
        }
        return what == 0 ? (int) (least & 0xFFFFFFF) : (int) (least >> 32);
    }

    int uncut() {
        int bits = 0;
        for (int w = 0; w < now.wires.size(); w++) {
            bits |= now.wires.get(w).cut ? 0 : 1 << w;
        }
        return bits;
    }

    int live() {
        int bits = 0;
        for (int w = 0; w < now.wires.size(); w++) {
            bits |= now.wires.get(w).live() ? 1 << w : 0;
        }
        return bits;
    }

    int[] stand(World world) {
        for (int v = 1; v <= 999; v++) {
            for (int h = 0; h < world.houses.size(); h++) {
                if (outcome(world, h, v).burns != 0) {
                    return new int[] {v - 1, h};
                }
            }
        }
        return new int[] {999, NONE};
    }

    int stands(int what) {
        return houseCount() == 0 || !bit(what) ? NONE : stand(now)[what];
    }

    int earth() {
        int best = NONE;
        int most = NONE;
        for (int h = 0; h < houseCount(); h++) {
            World then = now.copy();
            then.houses.get(h).bears = Math.min(99, then.houses.get(h).bears + 10);
            int stands = stand(then)[0];
            if (stands > most) {
                most = stands;
                best = h;
            }
        }
        return best;
    }

    int single() {
        if (houseCount() == 0) {
            return NONE;
        }
        int bits = 0;
        for (int h = 0; h < houseCount(); h++) {
            bits |= house(h, 5) == 0 ? 1 << h : 0;
        }
        return bits;
    }

    int reach(World world, int h) {
        TreeSet<Integer> found = new TreeSet<>();
        List<Integer> open = new ArrayList<>();
        open.add(h);
        found.add(h);
        while (!open.isEmpty()) {
            int from = open.remove(0);
            for (Wire w : world.wires) {
                int to = w.a == from ? w.b : w.a;
                if (w.live() && w.touches(from) && found.add(to)) {
                    open.add(to);
                }
            }
        }
        int bits = 0;
        for (int f : found) {
            bits |= 1 << f;
        }
        return bits;
    }

    int town(int h) {
        return isHouse(h) ? reach(now, h) : NONE;
    }

    int towns(World world) {
        Set<Integer> towns = new TreeSet<>();
        for (int h = 0; h < world.houses.size(); h++) {
            towns.add(reach(world, h));
        }
        return towns.size();
    }

    int net(int what) {
        if (houseCount() == 0 || !bit(what)) {
            return NONE;
        }
        if (what == 0) {
            return Integer.bitCount(live()) - houseCount() + towns(now);
        }
        int bits = 0;
        for (int w = 0; w < now.wires.size(); w++) {
            if (towns(without(1 << w)) > towns(now)) {
                bits |= 1 << w;
            }
        }
        return bits;
    }

    boolean plays(int one, int other, int v) {
        return isHouse(one) && isHouse(other) && one != other && isV(v) && !now.chapels(one, other)
            && !now.joined(one, other);
    }

    int game(int one, int other, int v, int a, int b, int what) {
        if (!plays(one, other, v) || !bit(a) || !bit(b) || !bit(what)) {
            return HIDDEN;
        }
        World then = now.copy();
        if (a == 1 && b == 1) {
            then.wires.add(new Wire(one, other, 0));
        }
        int h = what == 0 ? one : other;
        int most = Math.max(outcome(then, one, v).kept[h], outcome(then, other, v).kept[h]);
        return then.houses.get(h).bears - most;
    }

    int rests(int one, int other, int v, int i) {
        if (!plays(one, other, v)) {
            return NONE;
        }
        List<Integer> all = new ArrayList<>();
        for (int a = 0; a < 2; a++) {
            for (int b = 0; b < 2; b++) {
                boolean oneMoves = game(one, other, v, 1 - a, b, 0) > game(one, other, v, a, b, 0);
                boolean otherMoves = game(one, other, v, a, 1 - b, 1) > game(one, other, v, a, b, 1);
                if (!oneMoves && !otherMoves) {
                    all.add(10 * a + b);
                }
            }
        }
        return i == NONE ? all.size() : i < 0 || i >= all.size() ? NONE : all.get(i);
    }

    int atMost(World world, int a, int b, int v, int h) {
        return Math.max(outcome(world, a, v).kept[h], outcome(world, b, v).kept[h]);
    }

    int leaves(int v) {
        if (houseCount() == 0 || !isV(v)) {
            return NONE;
        }
        int bits = 0;
        for (int w = 0; w < now.wires.size(); w++) {
            Wire x = now.wires.get(w);
            World then = without(1 << w);
            if (x.live() && (atMost(then, x.a, x.b, v, x.a) < atMost(now, x.a, x.b, v, x.a)
                || atMost(then, x.a, x.b, v, x.b) < atMost(now, x.a, x.b, v, x.b))) {
                bits |= 1 << w;
            }
        }
        return bits;
    }

    int scorched(int struck, int v, int h, boolean is) {
        if (!isHouse(struck) || !isHouse(h) || !isV(v) || scorched.size() == 10) {
            return NONE;
        }
        scorched.add(new int[] {struck, v, h, is ? 1 : 0});
        return scorched.size();
    }

    List<Integer> fitting(int k) {
        List<Integer> all = new ArrayList<>();
        for (int bits = 0; bits < 1 << now.wires.size(); bits++) {
            if (Integer.bitCount(bits) != k || (bits & live()) != bits) {
                continue;
            }
            boolean fits = true;
            World then = without(bits);
            for (int[] clue : scorched) {
                fits &= (outcome(then, clue[0], clue[1]).burns >> clue[2] & 1) == clue[3];
            }
            if (fits) {
                all.add(bits);
            }
        }
        return all;
    }

    int who(int k, int i) {
        if (houseCount() == 0 || k < 0 || k > 2) {
            return NONE;
        }
        List<Integer> all = fitting(k);
        return i == NONE ? all.size() : i < 0 || i >= all.size() ? NONE : all.get(i);
    }

    int sure(int k) {
        if (houseCount() == 0 || k < 0 || k > 2 || fitting(k).isEmpty()) {
            return NONE;
        }
        int bits = 0xFFFF;
        for (int set : fitting(k)) {
            bits &= set;
        }
        return bits;
    }

    int best(int k) {
        if (houseCount() == 0 || k < 0 || k > 2 || fitting(k).isEmpty()) {
            return NONE;
        }
        TreeSet<Integer> ways = new TreeSet<>();
        List<Integer> all = fitting(k);
        for (int h = 0; h < houseCount(); h++) {
            int yes = 0;
            int no = 0;
            for (int set : all) {
                if (outcome(without(set), h, 50).burns != 0) {
                    yes++;
                } else {
                    no++;
                }
            }
            ways.add(10 * Math.abs(yes - no) + h);
        }
        return ways.first() % 10;
    }

    int odds(int h, int v) {
        if (!isHouse(h) || !isV(v)) {
            return NONE;
        }
        int heights = 0;
        for (House x : now.houses) {
            heights += x.height;
        }
        long parts = 0;
        for (int struck = 0; struck < houseCount(); struck++) {
            if ((outcome(now, struck, v).burns >> h & 1) == 1) {
                parts += 1000000000L * now.houses.get(struck).height / heights;
            }
        }
        return (int) parts;
    }

    int premium(int h, int v, int c) {
        if (!isHouse(h) || !isV(v) || c < 1 || c > 999) {
            return NONE;
        }
        long whole = (long) odds(h, v) * c;
        return (int) (whole / 1000000000L) + (whole % 1000000000L == 0 ? 0 : 1);
    }

    int test(int sort, boolean is) {
        if (houseCount() == 0 || sort < 0 || sort > 2 || tests.size() == 12) {
            return NONE;
        }
        tests.add(new int[] {sort, is ? 1 : 0});
        return tests.size();
    }

    int stroke() {
        if (houseCount() == 0) {
            return NONE;
        }
        java.math.BigInteger stroke = java.math.BigInteger.ONE;
        java.math.BigInteger spark = java.math.BigInteger.ONE;
        for (int[] t : tests) {
            int a = t[0] == 0 ? 8 : t[0] == 1 ? 7 : 6;
            int b = t[0] == 0 ? 3 : t[0] == 1 ? 1 : 5;
            stroke = stroke.multiply(java.math.BigInteger.valueOf(t[1] == 1 ? a : 10 - a));
            spark = spark.multiply(java.math.BigInteger.valueOf(t[1] == 1 ? b : 10 - b));
        }
        return stroke.multiply(java.math.BigInteger.valueOf(1000000)).divide(stroke.add(spark)).intValue();
    }

    int far(int one, int other) {
        return isHouse(one) && isHouse(other) ? now.far(one, other) : NONE;
    }

    int most(int what) {
        if (houseCount() == 0 || what < 0 || what > 2) {
            return NONE;
        }
        int best = NONE;
        int most = NONE;
        for (int i = 0; i < (what == 2 ? now.wires.size() : houseCount()); i++) {
            int x = what == 0 ? now.houses.get(i).height : what == 1 ? now.houses.get(i).burnt
                : now.wires.get(i).live() ? now.wires.get(i).salt : NONE;
            if (x > most) {
                most = x;
                best = i;
            }
        }
        return best;
    }

    int image() {
        if (houseCount() == 0) {
            return NONE;
        }
        image = now.copy();
        return now.summer;
    }

    int back() {
        if (image == null) {
            return NONE;
        }
        now = image.copy();
        undo.clear();
        return now.summer;
    }

    int count(int what) {
        if (what < 0 || what > 14) {
            return HIDDEN;
        }
        return new int[] {houseCount(), now.wires.size(), laws.size(), tape.length(), holds, now.summer,
            now.copper, now.dry, live(), storms, kites, scorched.size(), tests.size(), now.log.size(),
            undo.size()}[what];
    }
}
