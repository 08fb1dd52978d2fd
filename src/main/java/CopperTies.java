import java.util.Arrays;
import java.util.NoSuchElementException;

/**
 * A storm belt of houses and copper wires: strokes of lightning go from house to house, and
 * what is kept burns or warms. All rows are made in constructors: no call makes an object.
 */
public final class CopperTies {
    public static final int NONE = -1;
    public static final int HIDDEN = -1000000;

    private static final int NO_SUCH_SORT = -2;
    private static final int TAPE_MOST = 240;
    private static final int HOUSES_MOST = 8;
    private static final int WIRES_TOLD_MOST = 8;
    private static final int WIRES_MOST = 16;
    /** One more than there can be: a wire that is only thought of stands behind the last one. */
    private static final int WIRE_SLOTS = 17;
    private static final int LAWS_MOST = 4;
    private static final int CLUES_MOST = 10;
    private static final int TESTS_MOST = 12;
    private static final int STROKE_MOST = 999;
    private static final int SUMMERS_AT_ONCE = 60;
    private static final int LAST_SUMMER = 999;
    private static final int EARTH_PRICE = 5;
    private static final int LOOK_STROKE = 50;
    private static final int CHAPEL = 2;
    private static final int DEAD_SALT = 9;
    private static final int TWO_DIGITS_MOST = 99;
    private static final long BILLION = 1000000000L;
    private static final long MILLION = 1000000L;
    private static final long DRAW_TIMES = 6364136223846793005L;
    private static final long DRAW_MORE = 1442695040888963407L;

    /** What STATUS counts. */
    private static final int NO_SUCH_ONE = 0;
    private static final int OUT_OF_BOUNDS = 1;
    private static final int NOT_THERE = 2;
    private static final int NOT_SO = 3;
    private static final int TOO_LITTLE_COPPER = 4;
    private static final int STATUS_SORTS = 5;

    /** Of ten cases, by the sort of test: as of a stroke, by a stroke and by a spark. */
    private static final int[] SO_BY_STROKE = {8, 7, 6};
    private static final int[] SO_BY_SPARK = {3, 1, 5};

    private final Tape tape;
    private final BeltReader beltReader;
    private final LawReader lawReader;
    private final Laws laws;
    private final Belt belt;
    private final Storm storm;
    private final History history;
    private final Chronicle chronicle;
    private final Clues clues;
    private final Couples pairing;
    private final WireSets sets;
    private final int[] picture;
    private final int[] refusals;
    private boolean pictured;
    private int storms;
    private int kites;
    private int tests;
    private long strokeWays;
    private long sparkWays;
    private long chance;

    public CopperTies() {
        tape = new Tape();
        beltReader = new BeltReader(tape);
        lawReader = new LawReader(tape);
        laws = new Laws();
        belt = new Belt();
        storm = new Storm(belt, laws);
        history = new History();
        chronicle = new Chronicle();
        clues = new Clues();
        pairing = new Couples(belt);
        sets = new WireSets();
        picture = new int[Belt.ROW];
        refusals = new int[STATUS_SORTS];
        storms = 5;
        strokeWays = 1;
        sparkWays = 1;
    }

    // ---- the tape and what is told by it

    public int feed(int a, int b, int c, int d, int e) {
        int more = bytesOf(a) + bytesOf(b) + bytesOf(c) + bytesOf(d) + bytesOf(e);
        if (tape.length + more > TAPE_MOST) {
            return NONE;
        }
        tape.addBytes(a);
        tape.addBytes(b);
        tape.addBytes(c);
        tape.addBytes(d);
        tape.addBytes(e);
        return tape.length;
    }

    public boolean end(int n) {
        if (n < 0 || n > tape.length) {
            return false;
        }
        tape.length = n;
        return true;
    }

    public int fault(int sort) {
        if (!isBit(sort)) {
            return NO_SUCH_SORT;
        }
        return tapeReads(sort) ? NONE : tape.at;
    }

    public int text(int sort) {
        if (!isBit(sort) || sort == 1 && laws.told >= LAWS_MOST || !tapeReads(sort)) {
            return NONE;
        }
        tape.length = 0;
        if (sort == 1) {
            return laws.add(lawReader);
        }
        belt.take(beltReader);
        history.clear();
        chronicle.clear();
        clues.told = 0;
        pictured = false;
        tests = 0;
        strokeWays = 1;
        sparkWays = 1;
        return belt.houses;
    }

    public boolean law(int law) {
        if (law < NONE || law >= laws.told) {
            return false;
        }
        laws.holding = law;
        return true;
    }

    // ---- what there is

    public int house(int house, int what) throws NoSuchElementException {
        if (!isHouse(house)) {
            throw new NoSuchElementException("no such house");
        }
        switch (what) {
            case 0:
                return belt.place[house];
            case 1:
                return belt.height[house];
            case 2:
                return belt.bears[house];
            case 3:
                return belt.kind[house];
            case 4:
                return belt.burnt[house];
            case 5:
                return Integer.bitCount(belt.touching(belt.live(), house));
            default:
                throw new NoSuchElementException("no such thing of a house");
        }
    }

    public int wire(int wire, int what) {
        if (!isWire(wire)) {
            return NONE;
        }
        switch (what) {
            case 0:
                return belt.from[wire];
            case 1:
                return belt.to[wire];
            case 2:
                return belt.salt[wire];
            case 3:
                return bitOf(belt.cutBits, wire);
            case 4:
                return bitOf(belt.live(), wire);
            default:
                return NONE;
        }
    }

    public int status(int what) {
        return what < 0 || what >= STATUS_SORTS ? NONE : refusals[what];
    }

    public int log(int i, int what) {
        return chronicle.tells(i, what);
    }

    public int count(int what) {
        switch (what) {
            case 0:
                return belt.houses;
            case 1:
                return belt.wires;
            case 2:
                return laws.told;
            case 3:
                return tape.length;
            case 4:
                return laws.holding;
            case 5:
                return belt.summer;
            case 6:
                return belt.copper;
            case 7:
                return belt.dry;
            case 8:
                return belt.live();
            case 9:
                return storms;
            case 10:
                return kites;
            case 11:
                return clues.told;
            case 12:
                return tests;
            case 13:
                return chronicle.length();
            case 14:
                return history.acts;
            default:
                return HIDDEN;
        }
    }

    // ---- acts

    public int strike(int house, int v) {
        if (!isHouse(house)) {
            return refuse(NO_SUCH_ONE);
        }
        if (!isStroke(v)) {
            return refuse(OUT_OF_BOUNDS);
        }
        remember();
        return strikeNow(house, v);
    }

    public int lay(int house, int other) {
        if (!areTwoHouses(house, other)) {
            return refuse(NO_SUCH_ONE);
        }
        if (!belt.mayJoin(house, other) || belt.wires >= WIRES_MOST) {
            return refuse(NOT_THERE);
        }
        if (belt.copper < belt.price(house, other)) {
            return refuse(TOO_LITTLE_COPPER);
        }
        remember();
        belt.copper -= belt.price(house, other);
        belt.think(house, other);
        belt.wires++;
        return belt.wires - 1;
    }

    public int cut(int wire) {
        if (!isWire(wire)) {
            return refuse(NO_SUCH_ONE);
        }
        if (bitOf(belt.cutBits, wire) == 1) {
            return refuse(NOT_SO);
        }
        remember();
        belt.cutBits |= 1 << wire;
        belt.addCopper(belt.price(belt.from[wire], belt.to[wire]) / 2);
        return belt.copper;
    }

    public int scrape(int wire) {
        if (!isWire(wire)) {
            return refuse(NO_SUCH_ONE);
        }
        if (bitOf(belt.cutBits, wire) == 1 || belt.salt[wire] == 0) {
            return refuse(NOT_SO);
        }
        if (belt.copper < 1) {
            return refuse(TOO_LITTLE_COPPER);
        }
        remember();
        belt.salt[wire] = 0;
        belt.copper--;
        return belt.copper;
    }

    public int ground(int house) {
        if (!isHouse(house)) {
            return refuse(NO_SUCH_ONE);
        }
        if (belt.copper < EARTH_PRICE) {
            return refuse(TOO_LITTLE_COPPER);
        }
        remember();
        belt.copper -= EARTH_PRICE;
        belt.bears[house] = belt.bearsEarthed(house);
        return belt.bears[house];
    }

    public int summers(int n) {
        if (!hasBelt()) {
            return refuse(NO_SUCH_ONE);
        }
        if (!mayPass(n)) {
            return refuse(OUT_OF_BOUNDS);
        }
        for (int i = 0; i < n; i++) {
            remember();
            belt.passSummer();
        }
        return belt.summer;
    }

    public boolean set(int what, int v) {
        if (!isBit(what) || v < 0 || v > 9 || v == (what == 0 ? storms : kites)) {
            return false;
        }
        if (what == 0) {
            storms = v;
        } else {
            kites = v;
        }
        return true;
    }

    public int decades(int n, long seed) {
        if (!hasBelt() || !mayPass(n)) {
            return NONE;
        }
        chance = seed;
        for (int i = 0; i < n; i++) {
            remember();
            if (draw(10) < storms) {
                strikeByChance();
            }
            if (draw(10) < kites && belt.wires > 0) {
                belt.cutBits |= 1 << draw(belt.wires);
            }
            belt.passSummer();
        }
        return belt.summer;
    }

    public int undo() {
        if (history.acts == 0) {
            return NONE;
        }
        chronicle.told = history.goBack(belt);
        return history.acts;
    }

    public int image() {
        if (!hasBelt()) {
            return NONE;
        }
        belt.write(picture, 0);
        chronicle.keep();
        pictured = true;
        return belt.summer;
    }

    public int back() {
        if (!pictured) {
            return NONE;
        }
        belt.read(picture, 0);
        chronicle.giveBack();
        history.clear();
        return belt.summer;
    }

    // ---- what a stroke would do

    public int keeps(int struck, int v, int house) {
        if (!isHouse(struck) || !isHouse(house) || !isStroke(v)) {
            return NONE;
        }
        storm.fall(belt.live(), struck, v);
        return storm.kept[house];
    }

    public int burning(int house, int v) {
        return isHouse(house) && isStroke(v) ? storm.fall(belt.live(), house, v) : NONE;
    }

    public int lost(int house, int v) {
        if (!isHouse(house) || !isStroke(v)) {
            return NONE;
        }
        storm.fall(belt.live(), house, v);
        return storm.saltTook;
    }

    public int marry(int house, int v, int what) {
        if (!isHouse(house) || !isStroke(v) || !isBit(what)) {
            return NONE;
        }
        int fewest = HOUSES_MOST + 1;
        int couple = NONE;
        for (int low = 0; low < belt.houses; low++) {
            for (int high = low + 1; high < belt.houses; high++) {
                if (!couldLay(low, high)) {
                    continue;
                }
                int burns = Integer.bitCount(storm.fall(liveWith(low, high), house, v));
                if (burns < fewest) {
                    fewest = burns;
                    couple = 10 * low + high;
                }
            }
        }
        return what == 0 || couple == NONE ? couple : fewest;
    }

    public int parting(int house, int v, int what) {
        if (!isHouse(house) || !isStroke(v) || !isBit(what)) {
            return NONE;
        }
        int live = belt.live();
        int fewest = HOUSES_MOST + 1;
        int least = 0;
        for (int k = 0; k <= 2; k++) {
            sets.gather(belt.uncut(), k);
            for (int i = 0; i < sets.size; i++) {
                int burns = Integer.bitCount(storm.fall(live & ~sets.row[i], house, v));
                if (burns < fewest) {
                    fewest = burns;
                    least = sets.row[i];
                }
            }
        }
        return what == 0 ? least : fewest;
    }

    public int stands(int what) {
        if (!hasBelt() || !isBit(what)) {
            return NONE;
        }
        int most = greatestBorne();
        if (what == 0) {
            return most;
        }
        return most == STROKE_MOST ? NONE : weakestBy(belt.live(), most + 1);
    }

    public int earth() {
        // houses that, EARTHED, make all stand so far: who is left last makes STANDS greatest
        int left = (1 << belt.houses) - 1;
        for (int v = belt.leastBorne() + 1; v <= STROKE_MOST && left != 0; v++) {
            int standing = laws.readBears() ? standingAfresh(left, v) : standingAlike(left, v);
            if (standing == 0) {
                break;
            }
            left = standing;
        }
        return lowest(left);
    }

    // ---- houses and wires

    public int couples(int what) {
        if (!hasBelt() || !isBit(what) || !pairing.seek()) {
            return NONE;
        }
        return what == 0 ? pairing.leastSum : pairing.leastRow;
    }

    public int single() {
        if (!hasBelt()) {
            return NONE;
        }
        int live = belt.live();
        int alone = 0;
        for (int house = 0; house < belt.houses; house++) {
            if (belt.touching(live, house) == 0) {
                alone |= 1 << house;
            }
        }
        return alone;
    }

    public int town(int house) {
        return isHouse(house) ? belt.reach(belt.live(), house) : NONE;
    }

    public int net(int what) {
        if (!hasBelt() || !isBit(what)) {
            return NONE;
        }
        return what == 0 ? rings() : bridges();
    }

    public int far(int one, int other) {
        return isHouse(one) && isHouse(other) ? belt.apart(one, other) : NONE;
    }

    public int most(int what) {
        if (!hasBelt()) {
            return NONE;
        }
        switch (what) {
            case 0:
                return belt.highest(belt.height);
            case 1:
                return belt.highest(belt.burnt);
            case 2:
                return belt.saltiest(belt.live());
            default:
                return NONE;
        }
    }

    // ---- games and marriages

    public int game(int one, int other, int v, int x, int y, int what) {
        if (!mayPlay(one, other, v) || !isBit(x) || !isBit(y) || !isBit(what)) {
            return HIDDEN;
        }
        return what == 0 ? gain(one, other, v, x & y) : gain(other, one, v, x & y);
    }

    public int rests(int one, int other, int v, int i) {
        if (!mayPlay(one, other, v) || i < NONE) {
            return NONE;
        }
        int seen = 0;
        for (int choice = 0; choice < 4; choice++) {
            int x = choice >> 1;
            int y = choice & 1;
            if (!isRest(one, other, v, x, y)) {
                continue;
            }
            if (seen == i) {
                return 10 * x + y;
            }
            seen++;
        }
        return i == NONE ? seen : NONE;
    }

    public int leaves(int v) {
        if (!hasBelt() || !isStroke(v)) {
            return NONE;
        }
        int live = belt.live();
        int leaving = 0;
        for (int w = 0; w < belt.wires; w++) {
            if (bitOf(live, w) == 1 && wouldLeave(live, w, v)) {
                leaving |= 1 << w;
            }
        }
        return leaving;
    }

    // ---- wires that were cut

    public int scorched(int struck, int v, int house, boolean is) {
        if (!isHouse(struck) || !isHouse(house) || !isStroke(v) || clues.told >= CLUES_MOST) {
            return NONE;
        }
        clues.add(struck, v, house, is);
        return clues.told;
    }

    public int who(int k, int i) {
        if (!hasBelt() || k < 0 || k > 2) {
            return NONE;
        }
        gatherFitting(k);
        if (i == NONE) {
            return sets.size;
        }
        return i < 0 || i >= sets.size ? NONE : sets.row[i];
    }

    public int sure(int k) {
        if (!hasBelt() || k < 0 || k > 2) {
            return NONE;
        }
        gatherFitting(k);
        int common = NONE;
        for (int i = 0; i < sets.size; i++) {
            common &= sets.row[i];
        }
        return common;
    }

    public int best(int k) {
        if (!hasBelt() || k < 0 || k > 2) {
            return NONE;
        }
        gatherFitting(k);
        if (sets.size == 0) {
            return NONE;
        }
        int leastApart = sets.size + 1;
        int look = NONE;
        for (int house = 0; house < belt.houses; house++) {
            int apart = Math.abs(2 * burningSets(house) - sets.size);
            if (apart < leastApart) {
                leastApart = apart;
                look = house;
            }
        }
        return look;
    }

    // ---- odds and tests

    public int odds(int house, int v) {
        return isHouse(house) && isStroke(v) ? (int) burnParts(house, v) : NONE;
    }

    public int premium(int house, int v, int c) {
        if (!isHouse(house) || !isStroke(v) || c < 1 || c > 999) {
            return NONE;
        }
        return (int) ((burnParts(house, v) * c + BILLION - 1) / BILLION);
    }

    public int test(int sort, boolean is) {
        if (!hasBelt() || sort < 0 || sort >= SO_BY_STROKE.length || tests >= TESTS_MOST) {
            return NONE;
        }
        strokeWays *= is ? SO_BY_STROKE[sort] : 10 - SO_BY_STROKE[sort];
        sparkWays *= is ? SO_BY_SPARK[sort] : 10 - SO_BY_SPARK[sort];
        tests++;
        return tests;
    }

    public int stroke() {
        long ways = strokeWays + sparkWays;
        return !hasBelt() || ways < 1 ? NONE : (int) (strokeWays * MILLION / ways);
    }

    // ---- what the face is made of

    private static int bitOf(int bits, int i) {
        return bits >> i & 1;
    }

    private static boolean isBit(int x) {
        return x == 0 || x == 1;
    }

    private static boolean isStroke(int v) {
        return v >= 1 && v <= STROKE_MOST;
    }

    private static int bytesOf(int four) {
        int bytes = 0;
        for (int shift = 0; shift < 32; shift += 8) {
            if ((four >> shift & 255) != 0) {
                bytes++;
            }
        }
        return bytes;
    }

    private boolean tapeReads(int sort) {
        return sort == 0 ? beltReader.reads() : lawReader.reads();
    }

    private boolean hasBelt() {
        return belt.houses > 0;
    }

    private boolean isHouse(int house) {
        return house >= 0 && house < belt.houses;
    }

    private boolean areTwoHouses(int one, int other) {
        return isHouse(one) && isHouse(other) && one != other;
    }

    private boolean isWire(int wire) {
        return wire >= 0 && wire < belt.wires;
    }

    private boolean mayPass(int n) {
        return n >= 1 && n <= SUMMERS_AT_ONCE && belt.summer + n <= LAST_SUMMER;
    }

    private boolean mayPlay(int one, int other, int v) {
        return areTwoHouses(one, other) && isStroke(v) && belt.mayJoin(one, other);
    }

    private boolean couldLay(int one, int other) {
        return belt.wires < WIRES_MOST && belt.mayJoin(one, other)
            && belt.copper >= belt.price(one, other);
    }

    private int refuse(int sort) {
        refusals[sort]++;
        return NONE;
    }

    private void remember() {
        history.remember(belt, chronicle.told);
    }

    private int strikeNow(int house, int v) {
        int burned = storm.fall(belt.live(), house, v);
        belt.scorch(burned);
        chronicle.add(house, v, burned);
        return burned;
    }

    private void strikeByChance() {
        int point = draw(belt.heights());
        int house = 0;
        while (house < belt.houses - 1 && point >= belt.height[house]) {
            point -= belt.height[house];
            house++;
        }
        strikeNow(house, draw(99) + 1);
    }

    private int draw(int m) {
        chance = chance * DRAW_TIMES + DRAW_MORE;
        return m < 1 ? 0 : (int) ((chance >>> 33) % m);
    }

    /** The live wires, and one more between these two that is only thought of. */
    private int liveWith(int one, int other) {
        belt.think(one, other);
        return belt.live() | 1 << belt.wires;
    }

    private int greatestBorne() {
        int live = belt.live();
        // no house keeps more than the whole stroke: none burns by what the weakest bears
        for (int v = belt.leastBorne() + 1; v <= STROKE_MOST; v++) {
            if (weakestBy(live, v) != NONE) {
                return v - 1;
            }
        }
        return STROKE_MOST;
    }

    private int weakestBy(int live, int v) {
        for (int house = 0; house < belt.houses; house++) {
            if (storm.fall(live, house, v) != 0) {
                return house;
            }
        }
        return NONE;
    }

    /** Those of the houses that, EARTHED, let nobody BURN by v: the same strokes for all of them. */
    private int standingAlike(int houses, int v) {
        int live = belt.live();
        int standing = houses;
        for (int struck = 0; struck < belt.houses && standing != 0; struck++) {
            int burns = storm.fall(live, struck, v);
            for (int h = 0; h < belt.houses && burns != 0; h++) {
                if (burns != 1 << h || storm.kept[h] > belt.bearsEarthed(h)) {
                    standing &= ~(1 << h);
                }
            }
        }
        return standing;
    }

    /** As standingAlike, where the LAW that holds reads what a house BEARS: strokes go otherwise. */
    private int standingAfresh(int houses, int v) {
        int live = belt.live();
        int standing = houses;
        for (int h = 0; h < belt.houses; h++) {
            if (bitOf(houses, h) == 0) {
                continue;
            }
            int before = belt.bears[h];
            belt.bears[h] = belt.bearsEarthed(h);
            if (weakestBy(live, v) != NONE) {
                standing &= ~(1 << h);
            }
            belt.bears[h] = before;
        }
        return standing;
    }

    private int lowest(int houses) {
        for (int h = 0; h < belt.houses; h++) {
            if (bitOf(houses, h) == 1) {
                return h;
            }
        }
        return NONE;
    }

    private int rings() {
        int live = belt.live();
        int towns = 0;
        for (int house = 0; house < belt.houses; house++) {
            // a town is counted at its lowest house
            if ((belt.reach(live, house) & (1 << house) - 1) == 0) {
                towns++;
            }
        }
        return Integer.bitCount(live) - (belt.houses - towns);
    }

    private int bridges() {
        int live = belt.live();
        int bridges = 0;
        for (int w = 0; w < belt.wires; w++) {
            int without = live & ~(1 << w);
            if (without != live && bitOf(belt.reach(without, belt.from[w]), belt.to[w]) == 0) {
                bridges |= 1 << w;
            }
        }
        return bridges;
    }

    private int mostKept(int live, int house, int other, int v) {
        storm.fall(live, house, v);
        int own = storm.kept[house];
        storm.fall(live, other, v);
        return Math.max(own, storm.kept[house]);
    }

    private int gain(int mine, int yours, int v, int joined) {
        int live = joined == 1 ? liveWith(mine, yours) : belt.live();
        return belt.bears[mine] - mostKept(live, mine, yours, v);
    }

    private boolean isRest(int one, int other, int v, int x, int y) {
        return gain(one, other, v, x & y) >= gain(one, other, v, (1 - x) & y)
            && gain(other, one, v, x & y) >= gain(other, one, v, x & (1 - y));
    }

    private boolean wouldLeave(int live, int wire, int v) {
        int a = belt.from[wire];
        int b = belt.to[wire];
        int without = live & ~(1 << wire);
        return mostKept(without, a, b, v) < mostKept(live, a, b, v)
            || mostKept(without, b, a, v) < mostKept(live, b, a, v);
    }

    private void gatherFitting(int k) {
        int live = belt.live();
        sets.gather(live, k);
        int fitting = 0;
        for (int i = 0; i < sets.size; i++) {
            if (allSo(live & ~sets.row[i])) {
                sets.row[fitting] = sets.row[i];
                fitting++;
            }
        }
        sets.size = fitting;
    }

    private boolean allSo(int live) {
        for (int i = 0; i < clues.told; i++) {
            int burns = storm.fall(live, clues.struck[i], clues.strength[i]);
            if (bitOf(burns, clues.seen[i]) != clues.burnt[i]) {
                return false;
            }
        }
        return true;
    }

    private int burningSets(int house) {
        int live = belt.live();
        int burning = 0;
        for (int i = 0; i < sets.size; i++) {
            if (storm.fall(live & ~sets.row[i], house, LOOK_STROKE) != 0) {
                burning++;
            }
        }
        return burning;
    }

    private long burnParts(int house, int v) {
        int live = belt.live();
        int heights = belt.heights();
        long parts = 0;
        for (int struck = 0; heights > 0 && struck < belt.houses; struck++) {
            if (bitOf(storm.fall(live, struck, v), house) == 1) {
                parts += BILLION * belt.height[struck] / heights;
            }
        }
        return parts;
    }

    /** The bytes that were fed, and a place in them: where a reading failed, it stands at the FAULT. */
    private static final class Tape {
        static final int ENDED = -1;
        private static final int BLANK = 32;

        final int[] signs = new int[TAPE_MOST];
        int length;
        int at;
        int number;

        void addBytes(int four) {
            for (int shift = 24; shift >= 0; shift -= 8) {
                int sign = four >> shift & 255;
                if (sign != 0 && length < signs.length) {
                    signs[length] = sign;
                    length++;
                }
            }
        }

        /** The next sign that is no blank; the place moves on to it. */
        int sign() {
            while (at < length && signs[at] == BLANK) {
                at++;
            }
            return at < length ? signs[at] : ENDED;
        }

        boolean takes(int wanted) {
            if (sign() != wanted) {
                return false;
            }
            at++;
            return true;
        }

        boolean takesNumber(int digits) {
            sign();
            if (!atDigit()) {
                return false;
            }
            number = 0;
            for (int i = 0; i < digits && atDigit(); i++) {
                number = number * 10 + signs[at] - '0';
                at++;
            }
            return !atDigit();
        }

        private boolean atDigit() {
            return at < length && signs[at] >= '0' && signs[at] <= '9';
        }
    }

    /** Reads the tape as a BELT into rows of its own, so that a faulty one changes nothing. */
    private static final class BeltReader {
        /** The letters of s, then of h, then of w, with their bounds and what holds without. */
        private static final char[] LETTERS = {'c', 'd', 'x', 't', 'l', 'k', 'a', 'b', 's'};
        private static final int[] LOWEST = {0, 0, 0, 1, 1, 0, 0, 0, 0};
        private static final int[] HIGHEST = {99, 9, 20, 9, 99, 3, 7, 7, 9};
        private static final int[] WITHOUT = {20, 0, 0, 3, 20, 0, 0, 1, 0};
        static final int OF_RULES = 0;
        static final int OF_HOUSE = 2;
        static final int OF_WIRE = 6;
        static final int HOUSE_ROW = 4;
        static final int WIRE_ROW = 3;

        final Tape tape;
        final int[] rulesTold = new int[OF_HOUSE];
        final int[] housesTold = new int[HOUSES_MOST * HOUSE_ROW];
        final int[] wiresTold = new int[WIRES_TOLD_MOST * WIRE_ROW];
        boolean ruled;
        int houses;
        int wires;

        BeltReader(Tape tape) {
            this.tape = tape;
        }

        boolean reads() {
            tape.at = 0;
            ruled = false;
            houses = 0;
            wires = 0;
            setWithout(rulesTold, 0, OF_RULES, OF_HOUSE);
            for (int i = 0; i < TAPE_MOST; i++) {
                if (!readsClause()) {
                    return false;
                }
                if (!tape.takes(';')) {
                    break;
                }
            }
            return tape.sign() == Tape.ENDED && isWhole();
        }

        private boolean readsClause() {
            int letter = tape.sign();
            if (letter == 's' && !ruled) {
                tape.at++;
                ruled = true;
                return readsItems(rulesTold, 0, OF_RULES, OF_HOUSE);
            }
            if (letter == 'h' && houses < HOUSES_MOST) {
                tape.at++;
                houses++;
                return readsItems(housesTold, (houses - 1) * HOUSE_ROW, OF_HOUSE, OF_WIRE);
            }
            if (letter == 'w' && wires < WIRES_TOLD_MOST) {
                tape.at++;
                wires++;
                return readsItems(wiresTold, (wires - 1) * WIRE_ROW, OF_WIRE, LETTERS.length);
            }
            return false;
        }

        private void setWithout(int[] row, int base, int first, int end) {
            for (int i = first; i < end; i++) {
                row[base + i - first] = WITHOUT[i];
            }
        }

        private boolean readsItems(int[] row, int base, int first, int end) {
            setWithout(row, base, first, end);
            int there = 0;
            for (int i = first; i <= end; i++) {
                int item = itemAt(first, end);
                if (item == NONE) {
                    return true;
                }
                if (bitOf(there, item) == 1) {
                    return false;
                }
                there |= 1 << item;
                tape.at++;
                if (!readsNumberOf(item)) {
                    return false;
                }
                row[base + item - first] = tape.number;
            }
            return true;
        }

        private int itemAt(int first, int end) {
            int letter = tape.sign();
            for (int i = first; i < end; i++) {
                if (LETTERS[i] == letter) {
                    return i;
                }
            }
            return NONE;
        }

        private boolean readsNumberOf(int item) {
            if (!tape.takesNumber(2)) {
                return false;
            }
            if (tape.number < LOWEST[item] || tape.number > HIGHEST[item]) {
                // wrong at its last digit
                tape.at--;
                return false;
            }
            return true;
        }

        private boolean isWhole() {
            if (houses < 2) {
                return false;
            }
            for (int w = 0; w < wires; w++) {
                if (!isWireSound(w)) {
                    return false;
                }
            }
            return true;
        }

        private boolean isWireSound(int w) {
            int a = wiresTold[w * WIRE_ROW];
            int b = wiresTold[w * WIRE_ROW + 1];
            if (a >= houses || b >= houses || a == b || isChapel(a) && isChapel(b)) {
                return false;
            }
            for (int i = 0; i < w; i++) {
                int c = wiresTold[i * WIRE_ROW];
                int d = wiresTold[i * WIRE_ROW + 1];
                if (a == c && b == d || a == d && b == c) {
                    return false;
                }
            }
            return true;
        }

        private boolean isChapel(int house) {
            return housesTold[house * HOUSE_ROW + 3] == CHAPEL;
        }
    }

    /** Reads the tape as a LAW and writes it as steps for a stack of numbers. */
    private static final class LawReader {
        static final int STEP_BITS = 4;
        static final int NUMBER = 0;
        static final int LETTER = 1;
        static final int ADD = 2;
        static final int TAKE = 3;
        static final int TIMES = 4;
        static final int BY = 5;
        static final int SAME = 6;
        static final int LESS = 7;
        static final int MORE = 8;
        static final int NOT = 9;
        static final int AND = 10;
        static final int OR = 11;
        static final int UNLESS_GO = 12;
        static final int ANSWER = 13;
        /** Each sign gives one step at most: a clause's y pays for its ANSWER. */
        static final int STEPS_MOST = TAPE_MOST;
        /** The step for the letter l. */
        static final int BEARS = LETTER | 2 << STEP_BITS;
        private static final int NESTED_MOST = 6;
        private static final char[] LETTERS = {'p', 't', 'l', 'k', 'n', 'd'};

        final Tape tape;
        final int[] steps = new int[STEPS_MOST];
        int size;

        LawReader(Tape tape) {
            this.tape = tape;
        }

        boolean reads() {
            tape.at = 0;
            size = 0;
            for (int i = 0; i < TAPE_MOST; i++) {
                if (!readsClause()) {
                    return false;
                }
                if (!tape.takes(';')) {
                    break;
                }
            }
            return tape.sign() == Tape.ENDED;
        }

        private boolean readsClause() {
            if (!tape.takes('y') || !tape.takes(':')) {
                return false;
            }
            int sign = tape.sign();
            boolean begun = sign != '!' && sign != '(';
            if (begun) {
                if (!readsSum(0)) {
                    return false;
                }
                if (comparison() == NONE) {
                    put(ANSWER, 0);
                    return true;
                }
            }
            if (!readsCondition(0, begun) || !tape.takes('?')) {
                return false;
            }
            int hole = size;
            put(UNLESS_GO, 0);
            if (!readsSum(0)) {
                return false;
            }
            put(ANSWER, 0);
            if (hole < steps.length) {
                steps[hole] = UNLESS_GO | size << STEP_BITS;
            }
            return true;
        }

        /** Begun: the first SUM of the first UNIT has been read already. */
        private boolean readsCondition(int nested, boolean begun) {
            if (!readsTruth(nested, begun)) {
                return false;
            }
            for (int i = 0; i < TAPE_MOST && tape.takes('|'); i++) {
                if (!readsTruth(nested, false)) {
                    return false;
                }
                put(OR, 0);
            }
            return true;
        }

        private boolean readsTruth(int nested, boolean begun) {
            if (!readsUnit(nested, begun)) {
                return false;
            }
            for (int i = 0; i < TAPE_MOST && tape.takes('&'); i++) {
                if (!readsUnit(nested, false)) {
                    return false;
                }
                put(AND, 0);
            }
            return true;
        }

        private boolean readsUnit(int nested, boolean begun) {
            if (!begun) {
                int sign = tape.sign();
                if (sign == '!' || sign == '(') {
                    return readsNested(nested, sign);
                }
                if (!readsSum(nested)) {
                    return false;
                }
            }
            int step = comparison();
            if (step == NONE) {
                return false;
            }
            tape.at++;
            if (!readsSum(nested)) {
                return false;
            }
            put(step, 0);
            return true;
        }

        private boolean readsNested(int nested, int sign) {
            if (nested >= NESTED_MOST) {
                return false;
            }
            tape.at++;
            if (sign == '(') {
                return readsCondition(nested + 1, false) && tape.takes(')');
            }
            if (!readsUnit(nested + 1, false)) {
                return false;
            }
            put(NOT, 0);
            return true;
        }

        private int comparison() {
            switch (tape.sign()) {
                case '=':
                    return SAME;
                case '<':
                    return LESS;
                case '>':
                    return MORE;
                default:
                    return NONE;
            }
        }

        private boolean readsSum(int nested) {
            if (!readsTerm(nested)) {
                return false;
            }
            for (int i = 0; i < TAPE_MOST; i++) {
                int sign = tape.sign();
                if (sign != '+' && sign != '-') {
                    return true;
                }
                tape.at++;
                if (!readsTerm(nested)) {
                    return false;
                }
                put(sign == '+' ? ADD : TAKE, 0);
            }
            return true;
        }

        private boolean readsTerm(int nested) {
            if (!readsAtom(nested)) {
                return false;
            }
            for (int i = 0; i < TAPE_MOST; i++) {
                int sign = tape.sign();
                if (sign != '*' && sign != '/') {
                    return true;
                }
                tape.at++;
                if (!readsAtom(nested)) {
                    return false;
                }
                put(sign == '*' ? TIMES : BY, 0);
            }
            return true;
        }

        private boolean readsAtom(int nested) {
            int sign = tape.sign();
            if (sign == '[') {
                if (nested >= NESTED_MOST) {
                    return false;
                }
                tape.at++;
                return readsSum(nested + 1) && tape.takes(']');
            }
            for (int i = 0; i < LETTERS.length; i++) {
                if (LETTERS[i] == sign) {
                    tape.at++;
                    put(LETTER, i);
                    return true;
                }
            }
            if (!tape.takesNumber(4)) {
                return false;
            }
            put(NUMBER, tape.number);
            return true;
        }

        private void put(int step, int value) {
            if (size < steps.length) {
                steps[size] = step | value << STEP_BITS;
                size++;
            }
        }
    }

    /** The LAWS that were told, the one that holds, and how it is reckoned. */
    private static final class Laws {
        private static final int WITHIN = 1000000;
        /** Far more than six of ( [ ! within one another can leave open. */
        private static final int STACK_MOST = 64;

        final int[] steps = new int[LAWS_MOST * LawReader.STEPS_MOST];
        final int[] sizes = new int[LAWS_MOST];
        final int[] letters = new int[6];
        final int[] stack = new int[STACK_MOST];
        int told;
        int holding = NONE;
        int top;

        int add(LawReader reader) {
            if (told >= LAWS_MOST) {
                return NONE;
            }
            System.arraycopy(reader.steps, 0, steps, told * LawReader.STEPS_MOST, reader.size);
            sizes[told] = reader.size;
            told++;
            return told - 1;
        }

        /** Whether the LAW that holds has the letter l. */
        boolean readBears() {
            for (int i = 0; holding >= 0 && holding < told && i < sizes[holding]; i++) {
                if (steps[holding * LawReader.STEPS_MOST + i] == LawReader.BEARS) {
                    return true;
                }
            }
            return false;
        }

        void tell(int p, int t, int l, int k, int n, int d) {
            letters[0] = p;
            letters[1] = t;
            letters[2] = l;
            letters[3] = k;
            letters[4] = n;
            letters[5] = d;
        }

        /** The WORTH by the LAW that holds, of the letters that were told. */
        int worth() {
            if (holding < 0 || holding >= told) {
                return 0;
            }
            int base = holding * LawReader.STEPS_MOST;
            top = 0;
            for (int i = 0; i < sizes[holding]; i++) {
                int step = steps[base + i] & (1 << LawReader.STEP_BITS) - 1;
                int value = steps[base + i] >> LawReader.STEP_BITS;
                if (step == LawReader.ANSWER) {
                    return pop();
                }
                if (step == LawReader.UNLESS_GO) {
                    // it only ever goes on: the loop's own step comes behind
                    i = pop() == 0 && value > i ? value - 1 : i;
                } else if (step == LawReader.NUMBER) {
                    push(value);
                } else if (step == LawReader.LETTER) {
                    push(value < letters.length ? letters[value] : 0);
                } else if (step == LawReader.NOT) {
                    push(1 - pop());
                } else {
                    long right = pop();
                    push(join(step, pop(), right));
                }
            }
            return 0;
        }

        private void push(int x) {
            if (top < stack.length) {
                stack[top] = x;
                top++;
            }
        }

        private int pop() {
            if (top < 1) {
                return 0;
            }
            top--;
            return stack[top];
        }

        /** Both are within bounds themselves, so that no product goes round in a long. */
        private static int join(int step, long left, long right) {
            long x;
            switch (step) {
                case LawReader.ADD:
                    x = left + right;
                    break;
                case LawReader.TAKE:
                    x = left - right;
                    break;
                case LawReader.TIMES:
                    x = left * right;
                    break;
                case LawReader.BY:
                    x = right == 0 ? 0 : left / right;
                    break;
                case LawReader.SAME:
                    x = left == right ? 1 : 0;
                    break;
                case LawReader.LESS:
                    x = left < right ? 1 : 0;
                    break;
                case LawReader.MORE:
                    x = left > right ? 1 : 0;
                    break;
                case LawReader.AND:
                    x = left != 0 && right != 0 ? 1 : 0;
                    break;
                default:
                    x = left != 0 || right != 0 ? 1 : 0;
                    break;
            }
            if (x > WITHIN) {
                return WITHIN;
            }
            return x < -WITHIN ? -WITHIN : (int) x;
        }
    }

    /** The houses and wires as they are now. */
    private static final class Belt {
        /** Bears, burnt, wires, then how many wires, copper, summer. */
        static final int ROW = 2 * HOUSES_MOST + WIRES_MOST + 3;

        final int[] place = new int[HOUSES_MOST];
        final int[] height = new int[HOUSES_MOST];
        final int[] bears = new int[HOUSES_MOST];
        final int[] kind = new int[HOUSES_MOST];
        final int[] burnt = new int[HOUSES_MOST];
        final int[] from = new int[WIRE_SLOTS];
        final int[] to = new int[WIRE_SLOTS];
        final int[] salt = new int[WIRE_SLOTS];
        /** By house, the wires that go to it, as bits: strokes ask for them most of all. */
        private final int[] touches = new int[HOUSES_MOST];
        int houses;
        int wires;
        int cutBits;
        int copper;
        int dry;
        int summer;

        void take(BeltReader told) {
            houses = told.houses;
            wires = told.wires;
            cutBits = 0;
            copper = told.rulesTold[0];
            dry = told.rulesTold[1];
            summer = 0;
            for (int h = 0; h < houses; h++) {
                int base = h * BeltReader.HOUSE_ROW;
                place[h] = told.housesTold[base];
                height[h] = told.housesTold[base + 1];
                bears[h] = told.housesTold[base + 2];
                kind[h] = told.housesTold[base + 3];
                burnt[h] = 0;
            }
            for (int w = 0; w < wires; w++) {
                int base = w * BeltReader.WIRE_ROW;
                from[w] = told.wiresTold[base];
                to[w] = told.wiresTold[base + 1];
                salt[w] = told.wiresTold[base + 2];
            }
            touchAnew();
        }

        void write(int[] rows, int base) {
            for (int h = 0; h < HOUSES_MOST; h++) {
                rows[base + h] = bears[h];
                rows[base + HOUSES_MOST + h] = burnt[h];
            }
            int at = base + 2 * HOUSES_MOST;
            for (int w = 0; w < WIRES_MOST; w++) {
                rows[at + w] = from[w] | to[w] << 3 | salt[w] << 6 | bitOf(cutBits, w) << 10;
            }
            at += WIRES_MOST;
            rows[at] = wires;
            rows[at + 1] = copper;
            rows[at + 2] = summer;
        }

        void read(int[] rows, int base) {
            for (int h = 0; h < HOUSES_MOST; h++) {
                bears[h] = rows[base + h];
                burnt[h] = rows[base + HOUSES_MOST + h];
            }
            int at = base + 2 * HOUSES_MOST;
            cutBits = 0;
            for (int w = 0; w < WIRES_MOST; w++) {
                int packed = rows[at + w];
                from[w] = packed & 7;
                to[w] = packed >> 3 & 7;
                salt[w] = packed >> 6 & 15;
                cutBits |= bitOf(packed, 10) << w;
            }
            at += WIRES_MOST;
            wires = rows[at];
            copper = rows[at + 1];
            summer = rows[at + 2];
            touchAnew();
        }

        int uncut() {
            return (1 << wires) - 1 & ~cutBits;
        }

        int live() {
            int live = uncut();
            for (int w = 0; w < wires; w++) {
                if (salt[w] >= DEAD_SALT) {
                    live &= ~(1 << w);
                }
            }
            return live;
        }

        int touching(int bits, int house) {
            return bits & touches[house];
        }

        private void touchAnew() {
            Arrays.fill(touches, 0);
            for (int w = 0; w < wires; w++) {
                touches[from[w]] |= 1 << w;
                touches[to[w]] |= 1 << w;
            }
        }

        int reach(int bits, int house) {
            int found = 1 << house;
            for (int round = 0; round < houses; round++) {
                int before = found;
                for (int w = 0; w < wires; w++) {
                    int ends = 1 << from[w] | 1 << to[w];
                    if (bitOf(bits, w) == 1 && (found & ends) != 0) {
                        found |= ends;
                    }
                }
                if (found == before) {
                    break;
                }
            }
            return found;
        }

        boolean mayJoin(int one, int other) {
            if (kind[one] == CHAPEL && kind[other] == CHAPEL) {
                return false;
            }
            return (touching(uncut(), one) & touching(uncut(), other)) == 0;
        }

        int apart(int one, int other) {
            return Math.abs(place[one] - place[other]);
        }

        int price(int one, int other) {
            return Math.max(1, apart(one, other));
        }

        /** Writes a wire without salt behind the last one; it is not there until it is counted. */
        void think(int one, int other) {
            from[wires] = one;
            to[wires] = other;
            salt[wires] = 0;
            cutBits &= ~(1 << wires);
            for (int h = 0; h < houses; h++) {
                touches[h] &= ~(1 << wires);
            }
            touches[one] |= 1 << wires;
            touches[other] |= 1 << wires;
        }

        void addCopper(int more) {
            copper = Math.min(TWO_DIGITS_MOST, copper + more);
        }

        int bearsEarthed(int house) {
            return Math.min(TWO_DIGITS_MOST, bears[house] + 10);
        }

        void scorch(int burned) {
            for (int h = 0; h < houses; h++) {
                if (bitOf(burned, h) == 1) {
                    burnt[h] = Math.min(TWO_DIGITS_MOST, burnt[h] + 1);
                    bears[h] = Math.max(1, bears[h] - 1);
                }
            }
        }

        void passSummer() {
            for (int w = 0; w < wires; w++) {
                if (bitOf(cutBits, w) == 0) {
                    salt[w] = Math.min(DEAD_SALT, salt[w] + 1);
                }
            }
            addCopper(3);
            summer++;
        }

        int heights() {
            int sum = 0;
            for (int h = 0; h < houses; h++) {
                sum += height[h];
            }
            return sum;
        }

        int leastBorne() {
            int least = TWO_DIGITS_MOST;
            for (int h = 0; h < houses; h++) {
                least = Math.min(least, bears[h]);
            }
            return least;
        }

        int highest(int[] row) {
            int highest = 0;
            for (int h = 1; h < houses; h++) {
                if (row[h] > row[highest]) {
                    highest = h;
                }
            }
            return highest;
        }

        int saltiest(int bits) {
            int saltiest = NONE;
            for (int w = 0; w < wires; w++) {
                if (bitOf(bits, w) == 1 && (saltiest == NONE || salt[w] > salt[saltiest])) {
                    saltiest = w;
                }
            }
            return saltiest;
        }
    }

    /** One STROKE on the belt as it is, over those wires that are said to be live. */
    private static final class Storm {
        /** A house sends once at most over each of its wires; and the stroke itself. */
        private static final int PARTS_MOST = 2 * WIRE_SLOTS + 1;

        final Belt belt;
        final Laws laws;
        final int[] kept = new int[HOUSES_MOST];
        final int[] comesTo = new int[PARTS_MOST];
        final int[] comesBy = new int[PARTS_MOST];
        final int[] comes = new int[PARTS_MOST];
        int sent;
        int visited;
        int saltTook;

        Storm(Belt belt, Laws laws) {
            this.belt = belt;
            this.laws = laws;
        }

        /** Answers which BURN, as bits. */
        int fall(int live, int house, int v) {
            Arrays.fill(kept, 0);
            sent = 0;
            visited = 0;
            saltTook = 0;
            send(house, NONE, v);
            // each arrival may send more, but never beyond the rows
            for (int i = 0; i < sent && i < PARTS_MOST; i++) {
                arrive(live, comesTo[i], comesBy[i], comes[i]);
            }
            return burningBits();
        }

        private void send(int house, int wire, int part) {
            if (sent < PARTS_MOST) {
                comesTo[sent] = house;
                comesBy[sent] = wire;
                comes[sent] = part;
                sent++;
            }
        }

        private void arrive(int live, int house, int wire, int p) {
            if (bitOf(visited, house) == 1) {
                kept[house] += p;
                return;
            }
            visited |= 1 << house;
            int onward = belt.touching(live, house);
            if (wire != NONE) {
                onward &= ~(1 << wire);
            }
            int n = Integer.bitCount(onward);
            if (n == 0) {
                kept[house] += p;
                return;
            }
            int own = p / (n + 1) + belt.dry;
            if (laws.holding != NONE) {
                laws.tell(p, belt.height[house], belt.bears[house], belt.kind[house], n, belt.dry);
                own = laws.worth();
            }
            int each = (p - Math.max(0, Math.min(p, own))) / n;
            // what is left over by the cutting is kept, too
            kept[house] += p - each * n;
            pass(house, onward, each);
        }

        private void pass(int house, int onward, int each) {
            // up to the one that is only thought of, too
            for (int w = 0; w <= belt.wires && w < WIRE_SLOTS; w++) {
                if (bitOf(onward, w) == 0) {
                    continue;
                }
                int taken = Math.min(each, belt.salt[w]);
                saltTook += taken;
                if (each > taken) {
                    send(belt.from[w] == house ? belt.to[w] : belt.from[w], w, each - taken);
                }
            }
        }

        private int burningBits() {
            int bits = 0;
            for (int h = 0; h < belt.houses; h++) {
                if (kept[h] > belt.bears[h]) {
                    bits |= 1 << h;
                }
            }
            return bits;
        }
    }

    /** The belt ahead of each of the latest ACTS, in a ring of rows. */
    private static final class History {
        private static final int ACTS_MOST = 40;
        private static final int ROW = Belt.ROW + 1;

        final int[] rows = new int[ACTS_MOST * ROW];
        int acts;
        int next;

        void clear() {
            acts = 0;
        }

        void remember(Belt belt, int logged) {
            int base = next * ROW;
            belt.write(rows, base);
            rows[base + Belt.ROW] = logged;
            next = (next + 1) % ACTS_MOST;
            acts = Math.min(ACTS_MOST, acts + 1);
        }

        /** Makes the belt as it was ahead of the latest ACT; answers how much was in the LOG. */
        int goBack(Belt belt) {
            next = (next + ACTS_MOST - 1) % ACTS_MOST;
            acts--;
            int base = next * ROW;
            belt.read(rows, base);
            return rows[base + Belt.ROW];
        }
    }

    /** The LOG. Its ring holds more than is told, so that what was pushed out can come again. */
    private static final class Chronicle {
        private static final int TOLD_MOST = 60;
        /** Sixty that are told and forty that may be undone, at least. */
        private static final int RING = 128;
        private static final int ROW = 3;

        final int[] ring = new int[RING * ROW];
        final int[] kept = new int[TOLD_MOST * ROW];
        int told;
        int keptLength;

        void clear() {
            told = 0;
        }

        int length() {
            return Math.min(TOLD_MOST, told);
        }

        void add(int house, int v, int burned) {
            int base = told % RING * ROW;
            ring[base] = house;
            ring[base + 1] = v;
            ring[base + 2] = burned;
            told++;
        }

        int tells(int i, int what) {
            if (i < 0 || i >= length() || what < 0 || what >= ROW) {
                return NONE;
            }
            return ring[(told - 1 - i) % RING * ROW + what];
        }

        void keep() {
            keptLength = length();
            for (int i = 0; i < keptLength; i++) {
                for (int what = 0; what < ROW; what++) {
                    kept[i * ROW + what] = tells(i, what);
                }
            }
        }

        void giveBack() {
            clear();
            for (int i = keptLength - 1; i >= 0; i--) {
                add(kept[i * ROW], kept[i * ROW + 1], kept[i * ROW + 2]);
            }
        }
    }

    /** What is known as SCORCHED, or not. */
    private static final class Clues {
        final int[] struck = new int[CLUES_MOST];
        final int[] strength = new int[CLUES_MOST];
        final int[] seen = new int[CLUES_MOST];
        final int[] burnt = new int[CLUES_MOST];
        int told;

        void add(int house, int v, int other, boolean is) {
            if (told < CLUES_MOST) {
                struck[told] = house;
                strength[told] = v;
                seen[told] = other;
                burnt[told] = is ? 1 : 0;
                told++;
            }
        }
    }

    /** Looks for all houses in pairs. Rows are met rising, so the first of the least is kept. */
    private static final class Couples {
        private static final int NO_SUM = 1000;

        final Belt belt;
        final int[] partner = new int[HOUSES_MOST];
        int leastSum;
        int leastRow;

        Couples(Belt belt) {
            this.belt = belt;
        }

        boolean seek() {
            leastSum = NO_SUM;
            leastRow = NONE;
            pairFrom(0, 0, belt.houses % 2 == 1, 0);
            return leastSum < NO_SUM;
        }

        private void pairFrom(int house, int taken, boolean mayStay, int sum) {
            if (house >= belt.houses) {
                keepLeast(sum);
                return;
            }
            if (bitOf(taken, house) == 1) {
                pairFrom(house + 1, taken, mayStay, sum);
                return;
            }
            if (mayStay) {
                partner[house] = house;
                pairFrom(house + 1, taken, false, sum);
            }
            for (int other = house + 1; other < belt.houses; other++) {
                boolean chapels = belt.kind[house] == CHAPEL && belt.kind[other] == CHAPEL;
                if (bitOf(taken, other) == 0 && !chapels) {
                    partner[house] = other;
                    partner[other] = house;
                    pairFrom(house + 1, taken | 1 << other, mayStay, sum + belt.apart(house, other));
                }
            }
        }

        private void keepLeast(int sum) {
            if (sum >= leastSum) {
                return;
            }
            leastSum = sum;
            leastRow = 0;
            for (int h = 0; h < belt.houses; h++) {
                leastRow = leastRow * 10 + partner[h];
            }
        }
    }

    /** Sets of none, one or two wires as bits, rising. */
    private static final class WireSets {
        private static final int SETS_MOST = WIRES_MOST * (WIRES_MOST - 1) / 2;

        final int[] row = new int[SETS_MOST];
        int size;

        void gather(int from, int k) {
            size = 0;
            if (k == 0) {
                add(0);
                return;
            }
            for (int high = 0; high < WIRES_MOST; high++) {
                if (bitOf(from, high) == 0) {
                    continue;
                }
                if (k == 1) {
                    add(1 << high);
                    continue;
                }
                for (int low = 0; low < high; low++) {
                    if (bitOf(from, low) == 1) {
                        add(1 << high | 1 << low);
                    }
                }
            }
        }

        private void add(int bits) {
            if (size < row.length) {
                row[size] = bits;
                size++;
            }
        }
    }
}
