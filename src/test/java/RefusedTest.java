import java.util.function.Supplier;
import java.util.function.ToLongFunction;

/**
 * "What is refused answers as told and changes nothing but STATUS": each reason that a promise
 * names, its answer, and that all else is as it was. Behind it, that questions change nothing.
 */
public final class RefusedTest {
    private static final int NONE = -1;
    private static final int HIDDEN = -1000000;
    /** Each is out of bounds for any argument, but NONE for those that take it. */
    private static final int[] FAR_OFF = {Integer.MIN_VALUE, Integer.MIN_VALUE + 1, -1000001, -1000000,
        -999, -2, 1000, 1000000, Integer.MAX_VALUE - 1, Integer.MAX_VALUE};

    private RefusedTest() {
    }

    public static void main(String[] args) {
        tapeFull();
        wrongEnds();
        wrongSorts();
        wrongTexts();
        fourLaws();
        wrongSights();
        wrongLaws();
        wrongStrikes();
        wrongLays();
        wrongCutsAndScrapes();
        wrongGrounds();
        wrongSummers();
        wrongSets();
        wrongDecades();
        undoOfNone();
        backOfNone();
        wrongQuestionsOfStrokes();
        wrongQuestionsOfAll();
        wrongGames();
        wrongScorches();
        wrongTests();
        withoutABelt();
        theFirstOfSeveral();
        questionsChangeNothing();
        Check.finish();
    }

    private static void refused(String call, Supplier<CopperTies> maker,
            ToLongFunction<CopperTies> heard, long want, int status) {
        Twins.refused(call, maker, heard, want, status);
    }

    /** Refused by the rich belt, and no ACT. */
    private static void no(String call, ToLongFunction<CopperTies> heard) {
        Twins.refused(call, RefusedTest::rich, heard, NONE, Twins.NO_STATUS);
    }

    private static void no(String call, int status, ToLongFunction<CopperTies> heard) {
        Twins.refused(call, RefusedTest::rich, heard, NONE, status);
    }

    private static long bit(boolean b) {
        return b ? 1 : 0;
    }

    /**
     * Five houses, 1 and 2 chapels; wires 0 (live), 1 (cut), 2 (9 salt), 3 (laid, live); two laws,
     * one holds; a log, acts, an image, scorches, tests, and a belt on the tape.
     */
    private static CopperTies rich() {
        CopperTies x = Check.belt("sc40d1;ht2l30;hx4l12k2;hx9t1l25k2;hx15t5l18k1;hx20l40;ws2;wa1b3;wa3b4s8",
            "y:p/2+d");
        Check.tape(x, "y:n*3");
        x.text(1);
        x.strike(0, 90);
        x.lay(0, 2);
        x.cut(1);
        x.summers(1);
        x.image();
        x.scrape(0);
        x.ground(3);
        x.strike(4, 77);
        x.summers(1);
        x.scorched(0, 40, 1, true);
        x.scorched(4, 40, 4, false);
        x.test(1, true);
        x.set(0, 7);
        x.set(1, 2);
        x.strike(5, 1);
        x.cut(1);
        Check.tape(x, "hl7;hx3;w");
        return x;
    }

    private static CopperTies bare() {
        return new CopperTies();
    }

    private static void tapeFull() {
        Supplier<CopperTies> of230 = () -> {
            CopperTies x = Check.belt("h;h;w");
            Check.tape(x, "h;h".concat(" ".repeat(227)));
            return x;
        };
        refused("feed of 11 on 230", of230, x -> x.feed(0x20202020, 0x20202020, 0x202020, 0, 0), NONE, -1);
        refused("feed of 20 on 230", of230, x -> x.feed(-1, -1, -1, -1, -1), NONE, -1);
        Supplier<CopperTies> full = () -> {
            CopperTies x = of230.get();
            x.feed(0x20202020, 0x20202020, 0x2020, 0, 0);
            return x;
        };
        Check.due("it is full", full.get().count(3), 240);
        refused("feed of one on 240", full, x -> x.feed(0, 0, 0, 0, 1), NONE, -1);
        refused("feed of one high byte on 240", full, x -> x.feed(0x80000000, 0, 0, 0, 0), NONE, -1);
        refused("feed of nothing on 240", full, x -> x.feed(0, 0, 0, 0, 0), 240, -1);
    }

    private static void wrongEnds() {
        refused("end(-1)", RefusedTest::rich, x -> bit(x.end(-1)), 0, -1);
        refused("end(10) of 9", RefusedTest::rich, x -> bit(x.end(10)), 0, -1);
        refused("end(9) of 9", RefusedTest::rich, x -> bit(x.end(9)), 1, -1);
        refused("end(1) of none", RefusedTest::bare, x -> bit(x.end(1)), 0, -1);
        refused("end(0) of none", RefusedTest::bare, x -> bit(x.end(0)), 1, -1);
        for (int n : FAR_OFF) {
            Check.due("end(" + n + ")", rich().end(n), false);
        }
    }

    private static void wrongSorts() {
        refused("fault(-1)", RefusedTest::rich, x -> x.fault(-1), -2, -1);
        refused("fault(2)", RefusedTest::rich, x -> x.fault(2), -2, -1);
        no("text(-1)", x -> x.text(-1));
        no("text(2)", x -> x.text(2));
        for (int sort : FAR_OFF) {
            Check.due("fault(" + sort + ")", rich().fault(sort), -2);
            Check.due("text(" + sort + ")", rich().text(sort), NONE);
        }
    }

    private static void wrongTexts() {
        no("text(1) of a belt", x -> x.text(1));
        refused("text(0) of nothing", RefusedTest::bare, x -> x.text(0), NONE, -1);
        refused("text(1) of nothing", RefusedTest::bare, x -> x.text(1), NONE, -1);
        String[] faulty = {"h", "h;h;", "h;h;wb2", "h;h;wb0", "h;h;w;wa1b0", "hk2;hk2;w", "hx21;h",
            "h;h;h;h;h;h;h;h;h", "y:p", "h;h;q", "sc9d9;hx5l3k3t9;wa1b5s9"};
        for (String text : faulty) {
            Supplier<CopperTies> told = () -> {
                CopperTies x = rich();
                x.end(0);
                Check.tape(x, text);
                return x;
            };
            refused("text(0) of " + text, told, x -> x.text(0), NONE, -1);
        }
        String[] lawless = {"y", "y:", "y:p=1", "y:p?1", "y:[[[[[[[p]]]]]]]", "y:1;", "y:00000", "h;h"};
        for (String text : lawless) {
            Supplier<CopperTies> told = () -> {
                CopperTies x = rich();
                x.end(0);
                Check.tape(x, text);
                return x;
            };
            refused("text(1) of " + text, told, x -> x.text(1), NONE, -1);
        }
    }

    private static CopperTies withFourLaws() {
        CopperTies x = rich();
        x.end(0);
        for (int i = 2; i < 4; i++) {
            Check.tape(x, "y:" + i);
            Check.due("law " + i, x.text(1), i);
        }
        Check.tape(x, "y:4");
        return x;
    }

    private static void fourLaws() {
        refused("a fifth law", RefusedTest::withFourLaws, x -> x.text(1), NONE, -1);
        refused("law(4) of four", RefusedTest::withFourLaws, x -> bit(x.law(4)), 0, -1);
    }

    private static void wrongSights() {
        int[][] houses = {{5, 0}, {-1, 0}, {0, 6}, {0, -1}, {5, 6}, {4, 6}, {8, 0}};
        for (int[] at : houses) {
            refused("house(" + at[0] + ", " + at[1] + ")", RefusedTest::rich,
                x -> Twins.houseOf(x, at[0], at[1]), Twins.THROWN, -1);
        }
        refused("house(0, 0) without a belt", RefusedTest::bare, x -> Twins.houseOf(x, 0, 0), Twins.THROWN, -1);
        int[][] wires = {{4, 0}, {-1, 0}, {0, 5}, {0, -1}, {16, 0}, {3, 5}};
        for (int[] at : wires) {
            no("wire(" + at[0] + ", " + at[1] + ")", x -> x.wire(at[0], at[1]));
        }
        int[][] logs = {{2, 0}, {-1, 0}, {0, 3}, {0, -1}, {60, 0}};
        for (int[] at : logs) {
            no("log(" + at[0] + ", " + at[1] + ")", x -> x.log(at[0], at[1]));
        }
        no("status(-1)", x -> x.status(-1));
        no("status(5)", x -> x.status(5));
        refused("count(-1)", RefusedTest::rich, x -> x.count(-1), HIDDEN, -1);
        refused("count(15)", RefusedTest::rich, x -> x.count(15), HIDDEN, -1);
        CopperTies x = rich();
        for (int n : FAR_OFF) {
            Check.due("house(" + n + ", 0)", Twins.houseOf(x, n, 0), Twins.THROWN);
            Check.due("house(0, " + n + ")", Twins.houseOf(x, 0, n), Twins.THROWN);
            Check.due("wire(" + n + ", 0)", x.wire(n, 0), NONE);
            Check.due("wire(0, " + n + ")", x.wire(0, n), NONE);
            Check.due("log(" + n + ", 0)", x.log(n, 0), NONE);
            Check.due("log(0, " + n + ")", x.log(0, n), NONE);
            Check.due("status(" + n + ")", x.status(n), NONE);
            Check.due("count(" + n + ")", x.count(n), HIDDEN);
        }
    }

    private static void wrongLaws() {
        refused("law(2) of two", RefusedTest::rich, x -> bit(x.law(2)), 0, -1);
        refused("law(-2)", RefusedTest::rich, x -> bit(x.law(-2)), 0, -1);
        refused("law(0) of none", RefusedTest::bare, x -> bit(x.law(0)), 0, -1);
        for (int law : FAR_OFF) {
            Check.due("law(" + law + ")", rich().law(law), false);
        }
    }

    private static void wrongStrikes() {
        no("strike(5, 50)", 0, x -> x.strike(5, 50));
        no("strike(-1, 50)", 0, x -> x.strike(-1, 50));
        no("strike(0, 0)", 1, x -> x.strike(0, 0));
        no("strike(0, 1000)", 1, x -> x.strike(0, 1000));
        no("strike(4, -1)", 1, x -> x.strike(4, -1));
        CopperTies x = rich();
        for (int n : FAR_OFF) {
            Check.due("strike(" + n + ", 1)", x.strike(n, 1), NONE);
            Check.due("strike(0, " + n + ")", x.strike(0, n), NONE);
        }
        Check.due("all of them in status(0)", x.status(0), 1 + FAR_OFF.length);
        Check.due("all of them in status(1)", x.status(1), FAR_OFF.length);
    }

    private static CopperTies withSixteenWires() {
        CopperTies x = Check.belt("sc99;hx0;h;h;h;h;h;h;h;w;wa1b2;wa2b3;wa3b4;wa4b5;wa5b6;wa6b7;wa7b0");
        for (int h = 0; h < 8; h++) {
            Check.due("lay", x.lay(h, (h + 2) % 8), 8 + h);
        }
        return x;
    }

    private static CopperTies withSixteenOfWhichOneIsCut() {
        CopperTies x = withSixteenWires();
        x.cut(3);
        return x;
    }

    /** COPPER 4; 0 and 1 are 5 apart, 0 and 2 are 4 apart, 1 and 3 are in one place. */
    private static CopperTies withFourCopper() {
        return Check.belt("sc4;hx0;hx5;hx4;hx5;ws1;wa1b2");
    }

    private static void wrongLays() {
        no("lay(0, 5)", 0, x -> x.lay(0, 5));
        no("lay(5, 0)", 0, x -> x.lay(5, 0));
        no("lay(-1, 0)", 0, x -> x.lay(-1, 0));
        no("lay(0, -1)", 0, x -> x.lay(0, -1));
        no("lay(3, 3)", 0, x -> x.lay(3, 3));
        no("lay(0, 1): there is one", 2, x -> x.lay(0, 1));
        no("lay(1, 0): there is one", 2, x -> x.lay(1, 0));
        no("lay(3, 4): there is one full of salt", 2, x -> x.lay(3, 4));
        no("lay(1, 2): two chapels", 2, x -> x.lay(1, 2));
        refused("a seventeenth", RefusedTest::withSixteenWires, x -> x.lay(0, 4), NONE, 2);
        refused("a cut one of sixteen counts, too", RefusedTest::withSixteenOfWhichOneIsCut,
            x -> x.lay(3, 4), NONE, 2);
        Supplier<CopperTies> poor = () -> Check.belt("sc4;hx0;hx5;hx4");
        refused("5 apart for 4", poor, x -> x.lay(1, 0), NONE, 4);
        Supplier<CopperTies> poorest = () -> Check.belt("sc0;h;h");
        refused("1 at least for 0", poorest, x -> x.lay(0, 1), NONE, 4);
        CopperTies x = rich();
        for (int n : FAR_OFF) {
            Check.due("lay(" + n + ", 0)", x.lay(n, 0), NONE);
            Check.due("lay(0, " + n + ")", x.lay(0, n), NONE);
            Check.due("lay(" + n + ", " + n + ")", x.lay(n, n), NONE);
        }
        Check.due("all of them in status(0)", x.status(0), 1 + 3 * FAR_OFF.length);
    }

    private static void wrongCutsAndScrapes() {
        no("cut(4)", 0, x -> x.cut(4));
        no("cut(-1)", 0, x -> x.cut(-1));
        no("cut(1): it is", 3, x -> x.cut(1));
        no("scrape(4)", 0, x -> x.scrape(4));
        no("scrape(-1)", 0, x -> x.scrape(-1));
        no("scrape(1): it is cut", 3, x -> x.scrape(1));
        Supplier<CopperTies> clean = () -> Check.belt("sc9;h;h;w");
        refused("scrape(0): no salt", clean, x -> x.scrape(0), NONE, 3);
        Supplier<CopperTies> poor = () -> Check.belt("sc0;h;h;ws9");
        refused("scrape(0): no copper", poor, x -> x.scrape(0), NONE, 4);
        Supplier<CopperTies> saltyAndCut = () -> {
            CopperTies x = Check.belt("sc9;h;h;ws5");
            x.cut(0);
            return x;
        };
        refused("scrape(0): salt, but cut", saltyAndCut, x -> x.scrape(0), NONE, 3);
        refused("cut(0) of no wires", () -> Check.belt("h;h"), x -> x.cut(0), NONE, 0);
        refused("scrape(0) of no wires", () -> Check.belt("h;h"), x -> x.scrape(0), NONE, 0);
        CopperTies x = rich();
        for (int n : FAR_OFF) {
            Check.due("cut(" + n + ")", x.cut(n), NONE);
            Check.due("scrape(" + n + ")", x.scrape(n), NONE);
        }
        Check.due("all of them in status(0)", x.status(0), 1 + 2 * FAR_OFF.length);
    }

    private static void wrongGrounds() {
        no("ground(5)", 0, x -> x.ground(5));
        no("ground(-1)", 0, x -> x.ground(-1));
        refused("ground(0) for 4", RefusedTest::withFourCopper, x -> x.ground(0), NONE, 4);
        CopperTies x = rich();
        for (int n : FAR_OFF) {
            Check.due("ground(" + n + ")", x.ground(n), NONE);
        }
        Check.due("all of them in status(0)", x.status(0), 1 + FAR_OFF.length);
    }

    private static CopperTies atSummer(int summer) {
        CopperTies x = Check.belt("sc0;h;hl15;ws3");
        for (int left = summer; left > 0; left -= 60) {
            x.summers(Math.min(60, left));
        }
        Check.due("the summer", x.count(5), summer);
        return x;
    }

    private static void wrongSummers() {
        no("summers(0)", 1, x -> x.summers(0));
        no("summers(-1)", 1, x -> x.summers(-1));
        no("summers(61)", 1, x -> x.summers(61));
        refused("summers(1) at 999", () -> atSummer(999), x -> x.summers(1), NONE, 1);
        refused("summers(2) at 998", () -> atSummer(998), x -> x.summers(2), NONE, 1);
        refused("summers(60) at 940", () -> atSummer(940), x -> x.summers(60), NONE, 1);
        CopperTies x = rich();
        for (int n : FAR_OFF) {
            Check.due("summers(" + n + ")", x.summers(n), NONE);
        }
        Check.due("all of them in status(1)", x.status(1), FAR_OFF.length);
    }

    private static void wrongSets() {
        int[][] wrong = {{0, -1}, {0, 10}, {1, -1}, {1, 10}, {-1, 3}, {2, 3}, {0, 7}, {1, 2}};
        for (int[] at : wrong) {
            refused("set(" + at[0] + ", " + at[1] + ")", RefusedTest::rich, x -> bit(x.set(at[0], at[1])), 0, -1);
        }
        refused("set(0, 5) at first", RefusedTest::bare, x -> bit(x.set(0, 5)), 0, -1);
        refused("set(1, 0) at first", RefusedTest::bare, x -> bit(x.set(1, 0)), 0, -1);
        CopperTies x = rich();
        for (int n : FAR_OFF) {
            Check.due("set(" + n + ", 1)", x.set(n, 1), false);
            Check.due("set(0, " + n + ")", x.set(0, n), false);
            Check.due("set(1, " + n + ")", x.set(1, n), false);
        }
    }

    private static void wrongDecades() {
        no("decades(0, 1)", x -> x.decades(0, 1));
        no("decades(-1, 1)", x -> x.decades(-1, 1));
        no("decades(61, 1)", x -> x.decades(61, 1));
        refused("decades(1, 1) at 999", () -> atSummer(999), x -> x.decades(1, 1), NONE, -1);
        refused("decades(2, 1) at 998", () -> atSummer(998), x -> x.decades(2, 1), NONE, -1);
        refused("decades(60, 1) at 940", () -> atSummer(940), x -> x.decades(60, 1), NONE, -1);
        CopperTies x = rich();
        for (int n : FAR_OFF) {
            Check.due("decades(" + n + ", 1)", x.decades(n, 1), NONE);
        }
    }

    private static void undoOfNone() {
        refused("undo() of none", () -> Check.belt("h;h;w"), x -> x.undo(), NONE, -1);
        Supplier<CopperTies> undone = () -> {
            CopperTies x = Check.belt("h;h;w");
            x.summers(60);
            for (int i = 0; i < 40; i++) {
                x.undo();
            }
            return x;
        };
        refused("undo() behind forty", undone, x -> x.undo(), NONE, -1);
        Supplier<CopperTies> gone = () -> {
            CopperTies x = rich();
            x.back();
            return x;
        };
        refused("undo() behind back()", gone, x -> x.undo(), NONE, -1);
        Supplier<CopperTies> another = () -> {
            CopperTies x = rich();
            x.text(0);
            return x;
        };
        refused("undo() of another belt's", another, x -> x.undo(), NONE, -1);
        refused("back() to another belt's", another, x -> x.back(), NONE, -1);
    }

    private static void backOfNone() {
        Supplier<CopperTies> without = () -> {
            CopperTies x = Check.belt("h;h;w");
            x.strike(0, 99);
            x.summers(2);
            return x;
        };
        refused("back() without an image", without, x -> x.back(), NONE, -1);
    }

    private static void wrongQuestionsOfStrokes() {
        int[][] wrong = {{5, 50}, {-1, 50}, {0, 0}, {0, 1000}, {4, -1}};
        for (int[] at : wrong) {
            int h = at[0];
            int v = at[1];
            String of = "(" + h + ", " + v;
            no("keeps" + of + ", 0)", x -> x.keeps(h, v, 0));
            no("burning" + of + ")", x -> x.burning(h, v));
            no("lost" + of + ")", x -> x.lost(h, v));
            no("marry" + of + ", 0)", x -> x.marry(h, v, 0));
            no("parting" + of + ", 0)", x -> x.parting(h, v, 0));
            no("odds" + of + ")", x -> x.odds(h, v));
            no("premium" + of + ", 9)", x -> x.premium(h, v, 9));
        }
        no("keeps(0, 50, 5)", x -> x.keeps(0, 50, 5));
        no("keeps(0, 50, -1)", x -> x.keeps(0, 50, -1));
        for (int what : new int[] {-1, 2}) {
            no("marry(0, 50, " + what + ")", x -> x.marry(0, 50, what));
            no("parting(0, 50, " + what + ")", x -> x.parting(0, 50, what));
        }
        no("premium(0, 50, 0)", x -> x.premium(0, 50, 0));
        no("premium(0, 50, 1000)", x -> x.premium(0, 50, 1000));
        CopperTies x = rich();
        for (int n : FAR_OFF) {
            Check.due("keeps of house " + n, x.keeps(n, 1, 0), NONE);
            Check.due("keeps of v " + n, x.keeps(0, n, 0), NONE);
            Check.due("keeps at " + n, x.keeps(0, 1, n), NONE);
            Check.due("burning of house " + n, x.burning(n, 1), NONE);
            Check.due("burning of v " + n, x.burning(0, n), NONE);
            Check.due("lost of house " + n, x.lost(n, 1), NONE);
            Check.due("lost of v " + n, x.lost(0, n), NONE);
            Check.due("marry of house " + n, x.marry(n, 1, 0), NONE);
            Check.due("marry of v " + n, x.marry(0, n, 0), NONE);
            Check.due("marry of what " + n, x.marry(0, 1, n), NONE);
            Check.due("parting of house " + n, x.parting(n, 1, 0), NONE);
            Check.due("parting of v " + n, x.parting(0, n, 0), NONE);
            Check.due("parting of what " + n, x.parting(0, 1, n), NONE);
            Check.due("odds of house " + n, x.odds(n, 1), NONE);
            Check.due("odds of v " + n, x.odds(0, n), NONE);
            Check.due("premium of house " + n, x.premium(n, 1, 1), NONE);
            Check.due("premium of v " + n, x.premium(0, n, 1), NONE);
            Check.due("premium of c " + n, x.premium(0, 1, n), NONE);
        }
    }

    private static void wrongQuestionsOfAll() {
        for (int what : new int[] {-1, 2}) {
            no("couples(" + what + ")", x -> x.couples(what));
            no("stands(" + what + ")", x -> x.stands(what));
            no("net(" + what + ")", x -> x.net(what));
        }
        no("most(-1)", x -> x.most(-1));
        no("most(3)", x -> x.most(3));
        no("town(5)", x -> x.town(5));
        no("town(-1)", x -> x.town(-1));
        no("far(0, 5)", x -> x.far(0, 5));
        no("far(5, 0)", x -> x.far(5, 0));
        no("far(0, -1)", x -> x.far(0, -1));
        no("far(-1, 0)", x -> x.far(-1, 0));
        no("leaves(0)", x -> x.leaves(0));
        no("leaves(1000)", x -> x.leaves(1000));
        CopperTies x = rich();
        for (int n : FAR_OFF) {
            Check.due("couples(" + n + ")", x.couples(n), NONE);
            Check.due("stands(" + n + ")", x.stands(n), NONE);
            Check.due("net(" + n + ")", x.net(n), NONE);
            Check.due("most(" + n + ")", x.most(n), NONE);
            Check.due("town(" + n + ")", x.town(n), NONE);
            Check.due("far(" + n + ", 0)", x.far(n, 0), NONE);
            Check.due("far(0, " + n + ")", x.far(0, n), NONE);
            Check.due("leaves(" + n + ")", x.leaves(n), NONE);
        }
    }

    private static void wrongGame(String why, int one, int other, int v) {
        refused("game: " + why, RefusedTest::rich, x -> x.game(one, other, v, 1, 1, 0), HIDDEN, -1);
        no("rests: " + why, x -> x.rests(one, other, v, -1));
        no("rests, the first: " + why, x -> x.rests(one, other, v, 0));
    }

    private static void wrongGames() {
        wrongGame("no such one", 5, 0, 50);
        wrongGame("no such other", 0, 5, 50);
        wrongGame("no such one", -1, 0, 50);
        wrongGame("no such other", 0, -1, 50);
        wrongGame("alike", 3, 3, 50);
        wrongGame("two chapels", 1, 2, 50);
        wrongGame("a wire", 0, 1, 50);
        wrongGame("a wire, turned round", 1, 0, 50);
        wrongGame("a wire that was laid", 2, 0, 50);
        wrongGame("a wire full of salt", 3, 4, 50);
        wrongGame("v too small", 0, 3, 0);
        wrongGame("v too great", 0, 3, 1000);
        int[][] wrong = {{-1, 0, 0}, {2, 0, 0}, {0, -1, 0}, {0, 2, 0}, {0, 0, -1}, {0, 0, 2}};
        for (int[] at : wrong) {
            refused("game of x, y, what " + at[0] + ", " + at[1] + ", " + at[2], RefusedTest::rich,
                x -> x.game(0, 3, 50, at[0], at[1], at[2]), HIDDEN, -1);
        }
        no("rests(0, 3, 50, -2)", x -> x.rests(0, 3, 50, -2));
        no("rests(0, 3, 50, 4)", x -> x.rests(0, 3, 50, 4));
        CopperTies x = rich();
        for (int n : FAR_OFF) {
            Check.due("game of one " + n, x.game(n, 3, 50, 0, 0, 0), HIDDEN);
            Check.due("game of other " + n, x.game(0, n, 50, 0, 0, 0), HIDDEN);
            Check.due("game of both " + n, x.game(n, n, 50, 0, 0, 0), HIDDEN);
            Check.due("game of v " + n, x.game(0, 3, n, 0, 0, 0), HIDDEN);
            Check.due("game of x " + n, x.game(0, 3, 50, n, 0, 0), HIDDEN);
            Check.due("game of y " + n, x.game(0, 3, 50, 0, n, 0), HIDDEN);
            Check.due("game of what " + n, x.game(0, 3, 50, 0, 0, n), HIDDEN);
            Check.due("rests of one " + n, x.rests(n, 3, 50, -1), NONE);
            Check.due("rests of other " + n, x.rests(0, n, 50, -1), NONE);
            Check.due("rests of v " + n, x.rests(0, 3, n, -1), NONE);
            Check.due("rests of i " + n, x.rests(0, 3, 50, n), NONE);
        }
    }

    private static CopperTies withTenScorched() {
        CopperTies x = rich();
        for (int i = 3; i <= 10; i++) {
            Check.due("scorched", x.scorched(0, i, 1, false), i);
        }
        return x;
    }

    private static void wrongScorches() {
        no("scorched at 5", x -> x.scorched(5, 50, 0, true));
        no("scorched at -1", x -> x.scorched(-1, 50, 0, true));
        no("scorched of 5", x -> x.scorched(0, 50, 5, true));
        no("scorched of -1", x -> x.scorched(0, 50, -1, true));
        no("scorched by 0", x -> x.scorched(0, 0, 1, true));
        no("scorched by 1000", x -> x.scorched(0, 1000, 1, true));
        refused("an eleventh", RefusedTest::withTenScorched, x -> x.scorched(0, 50, 1, true), NONE, -1);
        for (int k : new int[] {-1, 3}) {
            no("who(" + k + ", -1)", x -> x.who(k, -1));
            no("sure(" + k + ")", x -> x.sure(k));
            no("best(" + k + ")", x -> x.best(k));
        }
        no("who(0, -2)", x -> x.who(0, -2));
        no("who(2, 120)", x -> x.who(2, 120));
        CopperTies x = rich();
        for (int n : FAR_OFF) {
            Check.due("scorched at " + n, x.scorched(n, 50, 0, true), NONE);
            Check.due("scorched by " + n, x.scorched(0, n, 1, true), NONE);
            Check.due("scorched of " + n, x.scorched(0, 50, n, true), NONE);
            Check.due("who(" + n + ", -1)", x.who(n, -1), NONE);
            Check.due("who(0, " + n + ")", x.who(0, n), NONE);
            Check.due("sure(" + n + ")", x.sure(n), NONE);
            Check.due("best(" + n + ")", x.best(n), NONE);
        }
    }

    private static CopperTies withTwelveTests() {
        CopperTies x = rich();
        for (int i = 2; i <= 12; i++) {
            Check.due("test", x.test(i % 3, i % 2 == 0), i);
        }
        return x;
    }

    private static void wrongTests() {
        no("test(-1)", x -> x.test(-1, true));
        no("test(3)", x -> x.test(3, false));
        refused("a thirteenth", RefusedTest::withTwelveTests, x -> x.test(0, true), NONE, -1);
        CopperTies x = rich();
        for (int n : FAR_OFF) {
            Check.due("test(" + n + ")", x.test(n, true), NONE);
        }
    }

    private static void bareNo(String call, int status, ToLongFunction<CopperTies> heard) {
        refused(call + " without a belt", RefusedTest::bare, heard, NONE, status);
    }

    private static void withoutABelt() {
        bareNo("wire", -1, x -> x.wire(0, 0));
        bareNo("strike", 0, x -> x.strike(0, 1));
        bareNo("strike of 0", 0, x -> x.strike(0, 0));
        bareNo("lay", 0, x -> x.lay(0, 1));
        bareNo("cut", 0, x -> x.cut(0));
        bareNo("scrape", 0, x -> x.scrape(0));
        bareNo("ground", 0, x -> x.ground(0));
        bareNo("summers", 0, x -> x.summers(1));
        bareNo("summers of 61", 0, x -> x.summers(61));
        bareNo("decades", -1, x -> x.decades(1, 1));
        bareNo("undo", -1, x -> x.undo());
        bareNo("log", -1, x -> x.log(0, 0));
        bareNo("keeps", -1, x -> x.keeps(0, 1, 0));
        bareNo("burning", -1, x -> x.burning(0, 1));
        bareNo("lost", -1, x -> x.lost(0, 1));
        bareNo("couples", -1, x -> x.couples(0));
        bareNo("marry", -1, x -> x.marry(0, 1, 0));
        bareNo("parting", -1, x -> x.parting(0, 1, 0));
        bareNo("stands", -1, x -> x.stands(0));
        bareNo("earth", -1, x -> x.earth());
        bareNo("single", -1, x -> x.single());
        bareNo("town", -1, x -> x.town(0));
        bareNo("net", -1, x -> x.net(0));
        refused("game without a belt", RefusedTest::bare, x -> x.game(0, 1, 1, 0, 0, 0), HIDDEN, -1);
        bareNo("rests", -1, x -> x.rests(0, 1, 1, -1));
        bareNo("leaves", -1, x -> x.leaves(1));
        bareNo("scorched", -1, x -> x.scorched(0, 1, 1, true));
        bareNo("who", -1, x -> x.who(0, -1));
        bareNo("sure", -1, x -> x.sure(0));
        bareNo("best", -1, x -> x.best(0));
        bareNo("odds", -1, x -> x.odds(0, 1));
        bareNo("premium", -1, x -> x.premium(0, 1, 1));
        bareNo("test", -1, x -> x.test(0, true));
        bareNo("stroke", -1, x -> x.stroke());
        bareNo("far", -1, x -> x.far(0, 0));
        bareNo("most", -1, x -> x.most(0));
        bareNo("image", -1, x -> x.image());
        bareNo("back", -1, x -> x.back());
    }

    /** "Of several the first": each call is wrong in more ways than one. */
    private static void theFirstOfSeveral() {
        no("strike: 0 ahead of 1", 0, x -> x.strike(5, 1000));
        no("lay: alike and no such ones", 0, x -> x.lay(9, 9));
        no("lay: alike, a chapel", 0, x -> x.lay(1, 1));
        Supplier<CopperTies> poor = () -> Check.belt("sc0;hk2;hk2x20;h;h;wa2b3s9");
        refused("lay: 2 ahead of 4, two chapels", poor, x -> x.lay(0, 1), NONE, 2);
        refused("lay: 2 ahead of 4, there is one", poor, x -> x.lay(2, 3), NONE, 2);
        refused("lay: 0 ahead of 4", poor, x -> x.lay(0, 4), NONE, 0);
        refused("ground: 0 ahead of 4", poor, x -> x.ground(4), NONE, 0);
        refused("scrape: 0 ahead of 4", poor, x -> x.scrape(1), NONE, 0);
        Supplier<CopperTies> clean = () -> Check.belt("sc0;h;h;w");
        refused("scrape: 3 ahead of 4", clean, x -> x.scrape(0), NONE, 3);
        Supplier<CopperTies> late = () -> atSummer(999);
        refused("summers: out of bounds and beyond, once", late, x -> x.summers(61), NONE, 1);
        Supplier<CopperTies> sixteen = () -> {
            CopperTies x = withSixteenWires();
            // what is left of 99 after eight in one place goes by earthing: 1
            for (int i = 0; i < 18; i++) {
                x.ground(0);
            }
            x.scrape(0);
            return x;
        };
        refused("lay: 0 ahead of sixteen", sixteen, x -> x.lay(0, 8), NONE, 0);
        refused("lay: sixteen and there is one, once", sixteen, x -> x.lay(0, 1), NONE, 2);
    }

    private static void ask(String call, ToLongFunction<CopperTies> heard) {
        Twins.asked(call, RefusedTest::rich, heard, heard.applyAsLong(rich()));
    }

    /** "(Apart, from as it is now.)" */
    private static void questionsChangeNothing() {
        ask("fault(0)", x -> x.fault(0));
        ask("fault(1)", x -> x.fault(1));
        ask("house", x -> Twins.houseOf(x, 4, 5));
        ask("wire", x -> x.wire(3, 4));
        ask("status", x -> x.status(4));
        ask("log", x -> x.log(1, 2));
        ask("keeps", x -> x.keeps(0, 999, 1));
        ask("burning", x -> x.burning(0, 999));
        ask("lost", x -> x.lost(0, 999));
        ask("couples(0)", x -> x.couples(0));
        ask("couples(1)", x -> x.couples(1));
        ask("marry(0)", x -> x.marry(4, 90, 0));
        ask("marry(1)", x -> x.marry(4, 90, 1));
        ask("parting", x -> x.parting(0, 90, 0));
        ask("stands(0)", x -> x.stands(0));
        ask("stands(1)", x -> x.stands(1));
        ask("earth", x -> x.earth());
        ask("single", x -> x.single());
        ask("town", x -> x.town(0));
        ask("net(0)", x -> x.net(0));
        ask("net(1)", x -> x.net(1));
        ask("game", x -> x.game(0, 3, 60, 1, 1, 0));
        ask("rests", x -> x.rests(0, 3, 60, -1));
        ask("leaves", x -> x.leaves(60));
        ask("who", x -> x.who(2, -1));
        ask("sure", x -> x.sure(2));
        ask("best", x -> x.best(1));
        ask("odds", x -> x.odds(0, 90));
        ask("premium", x -> x.premium(0, 90, 999));
        ask("stroke", x -> x.stroke());
        ask("far", x -> x.far(0, 4));
        ask("most", x -> x.most(0));
        ask("count", x -> x.count(8));
        // an EARTH that thinks of more than 99, by a law with l, and a full row of wires
        Supplier<CopperTies> byBears = () -> Check.belt("hl95;hl9;h;w", "y:l-5");
        Twins.asked("earth by a law with l", byBears, x -> x.earth(), byBears.get().earth());
        Twins.asked("game for a seventeenth", RefusedTest::withSixteenWires,
            x -> x.game(0, 4, 60, 1, 1, 1), withSixteenWires().game(0, 4, 60, 1, 1, 1));
        Twins.asked("rests for a seventeenth", RefusedTest::withSixteenWires,
            x -> x.rests(0, 4, 60, -1), withSixteenWires().rests(0, 4, 60, -1));
    }
}
