import java.util.NoSuchElementException;
import java.util.Random;

/** Random runs of calls, held against Model; seeds are fixed, so each run is the same. */
public final class ModelTest {
    private static final int RUNS = 400;
    private static final int CALLS = 480;
    private static final int TEXTS = 60000;
    private static final int[] ODD = {-1000000, Integer.MIN_VALUE, Integer.MAX_VALUE, -2, 1000, 999, 60, 61, 16, 8};

    private final Random random;
    private final CopperTies real = new CopperTies();
    private final Model model = new Model();
    private final StringBuilder told = new StringBuilder();

    private ModelTest(long seed) {
        random = new Random(seed);
    }

    public static void main(String[] args) {
        for (int run = 0; run < RUNS && Check.wrong < 5; run++) {
            new ModelTest(run).run(run);
        }
        new ModelTest(77).texts();
        Check.finish();
    }

    private int pick(int low, int high) {
        return low + random.nextInt(high - low + 1);
    }

    /** Mostly within, at times just outside, seldom far off. */
    private int near(int low, int high) {
        int way = random.nextInt(40);
        if (way == 0) {
            return ODD[random.nextInt(ODD.length)];
        }
        return way == 1 ? low - 1 : way == 2 ? high + 1 : pick(low, high);
    }

    private int aHouse() {
        return near(0, Math.max(0, model.houseCount() - 1));
    }

    private int aWire() {
        return near(0, Math.max(0, model.now.wires.size() - 1));
    }

    private int aStroke() {
        return random.nextInt(3) == 0 ? near(1, 999) : near(1, 120);
    }

    private void run(int run) {
        told.append("run ").append(run);
        if (run % 10 != 0) {
            newBelt(run % 4 == 0);
        }
        if (run % 5 == 1) {
            crowd();
        }
        for (int i = 0; i < CALLS && Check.wrong < 5; i++) {
            call(pick(2, 46));
        }
    }

    /** Eight houses with all wires that there can be. */
    private void crowd() {
        same("end(0)", real.end(0), model.end(0));
        StringBuilder b = new StringBuilder("sc99");
        for (int h = 0; h < 8; h++) {
            b.append(";hx").append(pick(0, 5)).append('l').append(pick(5, 99)).append('t').append(pick(1, 9));
        }
        tape(b.toString());
        same("text(0)", real.text(0), model.text(0));
        for (int i = 0; i < 60; i++) {
            actOrShow(10);
        }
    }

    private void same(String call, long got, long want) {
        told.append('\n').append(call).append(" -> ").append(want);
        if (got != want) {
            Check.due(told + "\n" + call, got, want);
        }
    }

    private void same(String call, boolean got, boolean want) {
        same(call, got ? 1 : 0, want ? 1 : 0);
    }

    // ---- texts

    private void blanks(StringBuilder b, boolean may) {
        if (may && random.nextInt(4) == 0) {
            b.append(' ');
        }
    }

    private void item(StringBuilder b, char letter, int low, int high, boolean blanks) {
        if (random.nextInt(3) == 0) {
            return;
        }
        blanks(b, blanks);
        b.append(letter);
        blanks(b, blanks);
        int value = pick(low, high);
        if (value < 10 && random.nextInt(12) == 0) {
            b.append('0');
        }
        b.append(value);
        blanks(b, blanks);
    }

    private String beltText(boolean dense) {
        boolean blanks = random.nextInt(6) == 0;
        StringBuilder b = new StringBuilder();
        if (random.nextInt(3) > 0) {
            b.append('s');
            item(b, 'c', 0, 99, blanks);
            item(b, 'd', 0, 9, blanks);
            b.append(';');
        }
        int houses = dense ? pick(5, 8) : pick(2, 8);
        for (int h = 0; h < houses; h++) {
            b.append(h == 0 ? "h" : ";h");
            item(b, 'x', 0, 20, blanks);
            item(b, 't', 1, 9, blanks);
            item(b, 'l', 1, random.nextInt(3) == 0 ? 99 : 30, blanks);
            if (random.nextInt(3) == 0) {
                item(b, 'k', 0, 3, blanks);
            }
        }
        int wires = dense ? 8 : pick(0, 8);
        for (int w = 0; w < wires; w++) {
            int a = random.nextInt(houses);
            int c = random.nextInt(houses);
            if (a == c && random.nextInt(20) > 0) {
                continue;
            }
            b.append(";wa").append(a).append('b').append(c);
            item(b, 's', 0, random.nextInt(4) == 0 ? 9 : 3, blanks);
        }
        return b.toString();
    }

    private void sum(StringBuilder b, int depth) {
        int terms = pick(1, 3);
        for (int i = 0; i < terms; i++) {
            if (i > 0) {
                b.append("+-*/".charAt(random.nextInt(4)));
            }
            int way = random.nextInt(8);
            if (way == 0 && depth < 7) {
                b.append('[');
                sum(b, depth + 1);
                b.append(']');
            } else if (way < 5) {
                b.append("ptlknd".charAt(random.nextInt(6)));
            } else {
                b.append(random.nextInt(random.nextInt(3) == 0 ? 10000 : 12));
            }
            if (random.nextInt(30) == 0) {
                b.append(' ');
            }
        }
    }

    private void condition(StringBuilder b, int depth) {
        int units = pick(1, 3);
        for (int i = 0; i < units; i++) {
            if (i > 0) {
                b.append("&|".charAt(random.nextInt(2)));
            }
            int way = random.nextInt(8);
            if (way == 0 && depth < 7) {
                b.append('(');
                condition(b, depth + 1);
                b.append(')');
            } else {
                if (way < 3) {
                    b.append('!');
                }
                sum(b, depth + 1);
                b.append("=<>".charAt(random.nextInt(3)));
                sum(b, depth + 1);
            }
        }
    }

    private String lawText() {
        StringBuilder b = new StringBuilder();
        int clauses = pick(1, 4);
        for (int i = 0; i < clauses; i++) {
            b.append(i == 0 ? "y:" : ";y:");
            if (random.nextInt(4) > 0) {
                condition(b, 0);
                b.append('?');
            }
            sum(b, 0);
        }
        return b.toString();
    }

    private String spoil(String text) {
        StringBuilder b = new StringBuilder(text);
        int times = pick(1, 2);
        String signs = " 0123456789shwxtlkabcdypn:;?!()[]|&=<>+-*/" + (char) 233;
        for (int i = 0; i < times; i++) {
            int at = random.nextInt(b.length() + 1);
            char sign = signs.charAt(random.nextInt(signs.length()));
            int way = random.nextInt(4);
            if (way == 0) {
                b.insert(at, sign);
            } else if (way == 1 && at < b.length()) {
                b.deleteCharAt(at);
            } else if (way == 2 && at < b.length()) {
                b.setCharAt(at, sign);
            } else {
                b.setLength(at);
            }
        }
        return b.toString();
    }

    private void tape(String text) {
        for (int start = 0; start < text.length(); start += 20) {
            int[] five = new int[5];
            for (int i = 0; i < 20; i++) {
                int sign = start + i < text.length() ? text.charAt(start + i) : 0;
                five[i / 4] |= sign << 24 - 8 * (i % 4);
            }
            same("feed of " + text.substring(start, Math.min(text.length(), start + 20)),
                real.feed(five[0], five[1], five[2], five[3], five[4]), model.feed(five));
        }
    }

    private void newBelt(boolean dense) {
        same("end(0)", real.end(0), model.end(0));
        tape(beltText(dense));
        same("fault(0)", real.fault(0), model.fault(0));
        same("text(0)", real.text(0), model.text(0));
    }

    private void newLaw() {
        same("end(0)", real.end(0), model.end(0));
        tape(lawText());
        same("fault(1)", real.fault(1), model.fault(1));
        same("text(1)", real.text(1), model.text(1));
        int law = near(-1, model.laws.size() - 1);
        same("law(" + law + ")", real.law(law), model.law(law));
    }

    /** Whole and spoilt texts, for FAULT alone. */
    private void texts() {
        for (int i = 0; i < TEXTS && Check.wrong < 5; i++) {
            int sort = i & 1;
            String text = sort == 0 ? beltText(random.nextBoolean()) : lawText();
            if (random.nextInt(4) > 0) {
                text = spoil(text);
            }
            if (text.length() > 240) {
                continue;
            }
            CopperTies x = real;
            x.end(0);
            Check.tape(x, text);
            int want = sort == 0 ? model.beltFault(text) : model.lawFault(text);
            if (x.fault(sort) != want) {
                Check.due("fault(" + sort + ") of " + text, x.fault(sort), want);
            }
        }
    }

    // ---- calls

    private void call(int promise) {
        if (promise < 10) {
            tellOrShow(promise);
        } else if (promise < 20) {
            actOrShow(promise);
        } else if (promise < 32) {
            askOfStrokes(promise);
        } else {
            askTheRest(promise);
        }
    }

    private void tellOrShow(int promise) {
        int h = aHouse();
        int w = aWire();
        int what = near(0, 5);
        switch (promise) {
            case 2 -> tape(spoil(random.nextBoolean() ? beltText(false) : lawText()));
            case 3 -> {
                int n = near(0, 240);
                same("end(" + n + ")", real.end(n), model.end(n));
            }
            case 4 -> same("fault(" + what + ")", real.fault(what), model.fault(what));
            case 5 -> {
                if (random.nextInt(8) == 0) {
                    newBelt(random.nextBoolean());
                } else {
                    same("text(" + what + ")", real.text(what), model.text(what));
                }
            }
            case 6 -> {
                long got = -1;
                try {
                    got = real.house(h, what);
                } catch (NoSuchElementException e) {
                    got = -1;
                }
                same("house(" + h + ", " + what + ")", got, model.house(h, what));
            }
            case 7 -> same("wire(" + w + ", " + what + ")", real.wire(w, what), model.wire(w, what));
            case 8 -> {
                if (random.nextInt(4) == 0) {
                    newLaw();
                } else {
                    int law = near(-1, 3);
                    same("law(" + law + ")", real.law(law), model.law(law));
                }
            }
            default -> {
                int v = aStroke();
                same("strike(" + h + ", " + v + ")", real.strike(h, v), model.strike(h, v));
            }
        }
    }

    private void actOrShow(int promise) {
        int h = aHouse();
        int g = aHouse();
        int w = aWire();
        switch (promise) {
            case 10 -> same("lay(" + h + ", " + g + ")", real.lay(h, g), model.lay(h, g));
            case 11 -> same("cut(" + w + ")", real.cut(w), model.cut(w));
            case 12 -> same("scrape(" + w + ")", real.scrape(w), model.scrape(w));
            case 13 -> same("ground(" + h + ")", real.ground(h), model.ground(h));
            case 14 -> {
                int n = random.nextInt(10) == 0 ? near(1, 60) : near(1, 2);
                same("summers(" + n + ")", real.summers(n), model.summers(n));
            }
            case 15 -> {
                int what = near(0, 1);
                int v = near(0, 9);
                same("set(" + what + ", " + v + ")", real.set(what, v), model.set(what, v));
            }
            case 16 -> {
                int n = random.nextInt(6) == 0 ? near(1, 60) : near(1, 3);
                long seed = random.nextBoolean() ? random.nextLong() : pick(0, 9);
                same("decades(" + n + ", " + seed + ")", real.decades(n, seed), model.decades(n, seed));
            }
            case 17 -> {
                int what = near(0, 4);
                same("status(" + what + ")", real.status(what), model.status(what));
            }
            case 18 -> {
                int times = random.nextInt(8) == 0 ? pick(1, 42) : 1;
                for (int i = 0; i < times; i++) {
                    same("undo()", real.undo(), model.undo());
                }
            }
            default -> {
                int i = random.nextBoolean() ? near(0, 59) : near(0, 3);
                int what = near(0, 2);
                same("log(" + i + ", " + what + ")", real.log(i, what), model.log(i, what));
            }
        }
    }

    private void askOfStrokes(int promise) {
        int h = aHouse();
        int g = aHouse();
        int v = aStroke();
        int what = near(0, 1);
        switch (promise) {
            case 20 -> same("keeps(" + h + ", " + v + ", " + g + ")", real.keeps(h, v, g), model.keeps(h, v, g));
            case 21 -> same("burning(" + h + ", " + v + ")", real.burning(h, v), model.burning(h, v));
            case 22 -> same("lost(" + h + ", " + v + ")", real.lost(h, v), model.lost(h, v));
            case 23 -> same("couples(" + what + ")", real.couples(what), model.couples(what));
            case 24 -> same("marry(" + h + ", " + v + ", " + what + ")", real.marry(h, v, what), model.marry(h, v, what));
            case 25 -> {
                if (model.now.wires.size() < 13 || random.nextInt(4) == 0) {
                    same("parting(" + h + ", " + v + ", " + what + ")",
                        real.parting(h, v, what), model.parting(h, v, what));
                }
            }
            case 26 -> same("stands(" + what + ")", real.stands(what), model.stands(what));
            case 27 -> same("earth()", real.earth(), model.earth());
            case 28 -> same("single()", real.single(), model.single());
            case 29 -> same("town(" + h + ")", real.town(h), model.town(h));
            case 30 -> same("net(" + what + ")", real.net(what), model.net(what));
            default -> {
                int x = near(0, 1);
                int y = near(0, 1);
                same("game(" + h + ", " + g + ", " + v + ", " + x + ", " + y + ", " + what + ")",
                    real.game(h, g, v, x, y, what), model.game(h, g, v, x, y, what));
            }
        }
    }

    private void askTheRest(int promise) {
        int h = aHouse();
        int g = aHouse();
        int v = aStroke();
        int k = near(0, 2);
        int i = near(-1, 3);
        boolean is = random.nextBoolean();
        switch (promise) {
            case 32 -> same("rests(" + h + ", " + g + ", " + v + ", " + i + ")",
                real.rests(h, g, v, i), model.rests(h, g, v, i));
            case 33 -> same("leaves(" + v + ")", real.leaves(v), model.leaves(v));
            case 34 -> {
                // mostly what is so with some wire cut, so that something fits
                int bits = model.now.wires.isEmpty() ? 0 : 1 << random.nextInt(model.now.wires.size());
                if (model.isHouse(h) && model.isHouse(g) && Model.isV(v) && random.nextInt(5) > 0) {
                    is = (model.outcome(model.without(bits), h, v).burns >> g & 1) == 1;
                }
                same("scorched(" + h + ", " + v + ", " + g + ", " + is + ")",
                    real.scorched(h, v, g, is), model.scorched(h, v, g, is));
            }
            case 35 -> {
                int j = random.nextBoolean() ? near(-1, 20) : -1;
                same("who(" + k + ", " + j + ")", real.who(k, j), model.who(k, j));
            }
            case 36 -> same("sure(" + k + ")", real.sure(k), model.sure(k));
            case 37 -> same("best(" + k + ")", real.best(k), model.best(k));
            case 38 -> same("odds(" + h + ", " + v + ")", real.odds(h, v), model.odds(h, v));
            case 39 -> {
                int c = near(1, 999);
                same("premium(" + h + ", " + v + ", " + c + ")", real.premium(h, v, c), model.premium(h, v, c));
            }
            case 40 -> same("test(" + k + ", " + is + ")", real.test(k, is), model.test(k, is));
            case 41 -> same("stroke()", real.stroke(), model.stroke());
            case 42 -> same("far(" + h + ", " + g + ")", real.far(h, g), model.far(h, g));
            case 43 -> same("most(" + k + ")", real.most(k), model.most(k));
            case 44 -> same("image()", real.image(), model.image());
            case 45 -> {
                if (random.nextInt(6) == 0) {
                    same("back()", real.back(), model.back());
                }
            }
            default -> {
                int what = near(0, 14);
                same("count(" + what + ")", real.count(what), model.count(what));
            }
        }
    }
}
