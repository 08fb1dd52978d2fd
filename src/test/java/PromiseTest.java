/** Answers worked out by hand from the document, promise by promise. */
public final class PromiseTest {
    /** Three in a row, 0 - 1 - 2, and a chapel apart; BEARS 9, 20, 6, 12; places 0, 3, 8, 10. */
    private static final String ROW = "sc30;hl9t4;hx3t5;hx8l6t1;hx10l12k2;w;wa1b2s1";

    private PromiseTest() {
    }

    public static void main(String[] args) {
        aNewObject();
        feedAndEnd();
        beltFaults();
        lawFaults();
        textsTold();
        whatABeltBecomes();
        housesAndWires();
        lawsHold();
        lawWorths();
        strikes();
        laysAndCuts();
        scrapesAndGrounds();
        summersPass();
        setAndDecades();
        statusCounts();
        actsUndone();
        logTold();
        strokesGo();
        coupled();
        layAndCuts();
        borne();
        crowded();
        nets();
        games();
        leaving();
        cutByScorches();
        oddsAndPremiums();
        testsTold();
        farAndMost();
        images();
        counts();
        Check.finish();
    }

    private static void due(String call, long got, long want) {
        Check.due(call, got, want);
    }

    private static void due(String call, boolean got, boolean want) {
        Check.due(call, got, want);
    }

    private static void aNewObject() {
        CopperTies x = new CopperTies();
        int[] want = {0, 0, 0, 0, -1, 0, 0, 0, 0, 5, 0, 0, 0, 0, 0};
        for (int i = 0; i < want.length; i++) {
            due("new: count(" + i + ")", x.count(i), want[i]);
        }
        for (int i = 0; i < 5; i++) {
            due("new: status(" + i + ")", x.status(i), 0);
        }
        Check.dueThrow("new: house(0, 0)", x, 0, 0);
        due("new: wire(0, 0)", x.wire(0, 0), -1);
        due("new: keeps", x.keeps(0, 1, 0), -1);
        due("new: stands(0)", x.stands(0), -1);
        due("new: couples(0)", x.couples(0), -1);
        due("new: game", x.game(0, 1, 1, 0, 0, 0), -1000000);
        due("new: undo", x.undo(), -1);
        due("new: back", x.back(), -1);
        due("NONE", CopperTies.NONE, -1);
        due("HIDDEN", CopperTies.HIDDEN, -1000000);
    }

    private static void feedAndEnd() {
        CopperTies x = new CopperTies();
        due("feed with zeros", x.feed(0x61006200, 0, 0x63, 0, 0xFF000000), 4);
        due("end(5)", x.end(5), false);
        due("end(-1)", x.end(-1), false);
        due("end(4)", x.end(4), true);
        due("count(3)", x.count(3), 4);
        due("end(2)", x.end(2), true);
        due("count(3)", x.count(3), 2);
        due("end(3)", x.end(3), false);
        for (int i = 0; i < 11; i++) {
            due("feed of 20", x.feed(-1, -1, -1, -1, -1), 22 + 20 * i);
        }
        due("feed beyond 240", x.feed(-1, -1, -1, -1, 0xFFFFFF), -1);
        due("count(3) as before", x.count(3), 222);
        due("feed up to 240", x.feed(-1, -1, -1, -1, 0xFFFF00), 240);
        due("feed of nothing", x.feed(0, 0, 0, 0, 0), 240);
        due("feed of one more", x.feed(0, 0, 0, 0, 1), -1);
        due("end(241)", x.end(241), false);
        due("end(240)", x.end(240), true);
    }

    private static void fault(int sort, String text, int want) {
        CopperTies x = new CopperTies();
        Check.tape(x, text);
        due("fault(" + sort + ") of <" + text + ">", x.fault(sort), want);
        due("text(" + sort + ") of <" + text + "> is told", x.text(sort) >= 0, want == -1);
        due("tape after <" + text + ">", x.count(3), want == -1 ? 0 : text.length());
    }

    private static void beltFaults() {
        fault(0, "", 0);
        fault(0, "  ", 2);
        fault(0, "h;h", -1);
        fault(0, " h ; h ", -1);
        fault(0, "h;h;", 4);
        fault(0, "h;;h", 2);
        fault(0, ";h;h", 0);
        fault(0, "h", 1);
        fault(0, "w", 1);
        fault(0, "w;h;h", -1);
        fault(0, "h;h;s;s", 6);
        fault(0, "s;h;h;s", 6);
        fault(0, "h;h;h;h;h;h;h;h", -1);
        fault(0, "h;h;h;h;h;h;h;h;h", 16);
        fault(0, "h;h;w;w;w;w;w;w;w;w;w", 20);
        fault(0, "h;h;w;w;w;w;w;w;w;w", 19);
        fault(0, "hx20;hx00", -1);
        fault(0, "hx21;h", 3);
        fault(0, "hx99;h", 3);
        fault(0, "hx999;h", 4);
        fault(0, "hx005;h", 4);
        fault(0, "ht0;h", 2);
        fault(0, "ht00;h", 3);
        fault(0, "ht05;h", -1);
        fault(0, "ht10;h", 3);
        fault(0, "hl0;h", 2);
        fault(0, "hl99;hl01", -1);
        fault(0, "hk3;hk2", -1);
        fault(0, "hk4;h", 2);
        fault(0, "sc99d9;h;h", -1);
        fault(0, "sd10;h;h", 3);
        fault(0, "sx1;h;h", 1);
        fault(0, "hx1x2;h", 3);
        fault(0, "hx 1 t 2;h", -1);
        fault(0, "hx1 2;h", 4);
        fault(0, "hxt1;h", 2);
        fault(0, "hx;h", 2);
        fault(0, "hx", 2);
        fault(0, "h h", 2);
        fault(0, "H;h", 0);
        fault(0, "h,h", 1);
        fault(0, "h;h" + (char) 233, 3);
        fault(0, "h;h\n", 3);
        fault(0, "h;h;wa1b0s9", -1);
        fault(0, "h;h;wa8", 6);
        fault(0, "h;h;ws10", 7);
        fault(0, "h;h;wb2", 7);
        fault(0, "h;h;wb2;h", -1);
        fault(0, "h;h;wa1", 7);
        fault(0, "h;h;wb0", 7);
        fault(0, "h;h;w;wa1b0", 11);
        fault(0, "h;h;w;w ", 8);
        fault(0, "hk2;hk2;w", 9);
        fault(0, "hk2;hk2", -1);
        fault(0, "hk2;hk1;w", -1);
        CopperTies x = new CopperTies();
        due("fault(2)", x.fault(2), -2);
        due("fault(-1)", x.fault(-1), -2);
    }

    private static void lawFaults() {
        fault(1, "", 0);
        fault(1, "y", 1);
        fault(1, "y:", 2);
        fault(1, "y:p", -1);
        fault(1, " y : p + 1 ", -1);
        fault(1, "y:q", 2);
        fault(1, "y:-1", 2);
        fault(1, "y:p-", 4);
        fault(1, "y:9999", -1);
        fault(1, "y:99999", 6);
        fault(1, "y:00000", 6);
        fault(1, "y:1 2", 4);
        fault(1, "y:pt", 3);
        fault(1, "y:p?1", 3);
        fault(1, "y:p=1", 5);
        fault(1, "y:p=1;y:p", 5);
        fault(1, "y:p=1?2", -1);
        fault(1, "y:p=1=2?2", 5);
        fault(1, "y:p=1?2=3", 7);
        fault(1, "y:p=1?2?3", 7);
        fault(1, "y:p=1&t?2", 7);
        fault(1, "y:p=1&t>2|!n<3?2", -1);
        fault(1, "y:(p)?2", 4);
        fault(1, "y:(p=1?2", 6);
        fault(1, "y:(p=1)2", 7);
        fault(1, "y:(p=1)", 7);
        fault(1, "y:(p=1)+1=2?3", 7);
        fault(1, "y:!p?2", 4);
        fault(1, "y:[p", 4);
        fault(1, "y:[p=1]", 4);
        fault(1, "y:[p)", 4);
        fault(1, "y:[(p)]", 3);
        fault(1, "y:[p+1]*2/[3]=6?[1]", -1);
        fault(1, "y:1;y:2;y:3", -1);
        fault(1, "y:1;", 4);
        fault(1, "y:1;z", 4);
        fault(1, "y:[[[[[[1]]]]]]", -1);
        fault(1, "y:[[[[[[[1]]]]]]]", 8);
        fault(1, "y:!!!!!!1=1?1", -1);
        fault(1, "y:!!!!!!!1=1?1", 8);
        fault(1, "y:!(!(!([1]=1)))?1", 8);
        fault(1, "y:!(!(!(1=1)))?1", -1);
        fault(1, "y:!!!!!!1=[1]?1", 10);
        fault(1, "y:!!!!!1=[1]&[[[[[[1]]]]]]=1?1", -1);
        fault(1, "y:((((((1=1))))))?1", -1);
        fault(1, "y:(((((((1=1)))))))?1", 8);
    }

    private static void textsTold() {
        CopperTies x = new CopperTies();
        due("text(0) of nothing", x.text(0), -1);
        due("text(2)", x.text(2), -1);
        Check.tape(x, "y:p");
        due("a law as a belt", x.text(0), -1);
        due("the tape stays", x.count(3), 3);
        due("text(-1)", x.text(-1), -1);
        for (int i = 0; i < 4; i++) {
            due("law " + i, x.text(1), i);
            due("the tape is empty", x.count(3), 0);
            Check.tape(x, "y:p");
        }
        due("a fifth law", x.text(1), -1);
        due("the tape stays", x.count(3), 3);
        due("count(2)", x.count(2), 4);
    }

    private static void whatABeltBecomes() {
        CopperTies x = Check.belt(ROW, "y:0");
        x.strike(0, 30);
        x.summers(2);
        x.image();
        x.scorched(0, 1, 1, false);
        x.test(0, true);
        x.set(0, 7);
        x.set(1, 3);
        x.strike(9, 1);
        Check.tape(x, "h;h;hl40");
        due("another belt", x.text(0), 3);
        int[] want = {3, 0, 1, 0, 0, 0, 20, 0, 0, 7, 3, 0, 0, 0, 0};
        for (int i = 0; i < want.length; i++) {
            due("another belt: count(" + i + ")", x.count(i), want[i]);
        }
        due("status stays", x.status(0), 1);
        due("no image of this belt", x.back(), -1);
        due("no act of this belt", x.undo(), -1);
        due("no log of this belt", x.log(0, 0), -1);
        due("stroke as at first", x.stroke(), 500000);
        due("burnt none", x.house(0, 4), 0);
        due("bears as told", x.house(2, 2), 40);
    }

    private static void housesAndWires() {
        CopperTies x = Check.belt("sc7d2;hx20t9l99k3;h;wa1b0s8;hx5;wb2s9");
        int[] first = {20, 9, 99, 3, 0, 1};
        int[] second = {0, 3, 20, 0, 0, 1};
        for (int i = 0; i < 6; i++) {
            due("house(0, " + i + ")", x.house(0, i), first[i]);
            due("house(1, " + i + ")", x.house(1, i), second[i]);
        }
        due("a wire full of salt is not live", x.house(2, 5), 0);
        Check.dueThrow("house(3, 0)", x, 3, 0);
        Check.dueThrow("house(-1, 0)", x, -1, 0);
        Check.dueThrow("house(0, 6)", x, 0, 6);
        Check.dueThrow("house(0, -1)", x, 0, -1);
        int[][] wires = {{1, 0, 8, 0, 1}, {0, 2, 9, 0, 0}};
        for (int w = 0; w < 2; w++) {
            for (int i = 0; i < 5; i++) {
                due("wire(" + w + ", " + i + ")", x.wire(w, i), wires[w][i]);
            }
        }
        due("wire(2, 0)", x.wire(2, 0), -1);
        due("wire(-1, 0)", x.wire(-1, 0), -1);
        due("wire(0, 5)", x.wire(0, 5), -1);
        due("wire(0, -1)", x.wire(0, -1), -1);
        x.cut(0);
        due("cut", x.wire(0, 3), 1);
        due("cut is not live", x.wire(0, 4), 0);
    }

    private static void lawsHold() {
        CopperTies x = Check.belt("h;h;w");
        due("law(0) of none", x.law(0), false);
        due("law(NONE)", x.law(-1), true);
        Check.tape(x, "y:0");
        x.text(1);
        Check.tape(x, "y:7");
        x.text(1);
        due("none holds yet", x.keeps(0, 30, 0), 15);
        due("count(4)", x.count(4), -1);
        due("law(0)", x.law(0), true);
        due("by the first", x.keeps(0, 30, 0), 0);
        due("law(1)", x.law(1), true);
        due("by the second", x.keeps(0, 30, 0), 7);
        due("law(1) again", x.law(1), true);
        due("law(2)", x.law(2), false);
        due("law(-2)", x.law(-2), false);
        due("still the second", x.count(4), 1);
        due("law(NONE) again", x.law(-1), true);
        due("none again", x.keeps(0, 30, 0), 15);
    }

    /** What house 0 (HEIGHT 4, BEARS 50, a BANK, DRY 3, one wire) keeps of 100. */
    private static void worth(String law, int want) {
        CopperTies x = Check.belt("sd3;ht4l50k1;h;w", law);
        due("keeps by " + law, x.keeps(0, 100, 0), want);
        due("the other by " + law, x.keeps(0, 100, 1), 100 - want);
    }

    private static void lawWorths() {
        worth("y:p", 100);
        worth("y:t", 4);
        worth("y:l", 50);
        worth("y:k", 1);
        worth("y:n", 1);
        worth("y:d", 3);
        worth("y:p+1", 100);
        worth("y:0-5", 0);
        worth("y:7-5-1", 1);
        worth("y:7-[5-1]", 3);
        worth("y:2+3*4", 14);
        worth("y:[2+3]*4", 20);
        worth("y:20/3*3", 18);
        worth("y:60/0+5", 5);
        worth("y:[0-7]/2+10", 7);
        worth("y:9999*9999/9999-90", 10);
        worth("y:[0-9999]*9999/9999+110", 10);
        worth("y:9999*9999+1-9999*9999+5", 5);
        worth("y:p>100?1", 0);
        worth("y:p>99?1", 1);
        worth("y:p=100?2;y:3", 2);
        worth("y:p<100?2;y:3", 3);
        worth("y:p<100?2;y:p<101?4;y:3", 4);
        worth("y:!p<100?2;y:3", 2);
        worth("y:!!p<100?2;y:3", 3);
        worth("y:1=1|1=1&1=2?2;y:3", 2);
        worth("y:(1=1|1=1)&1=2?2;y:3", 3);
        worth("y:!1=1&1=2?2;y:3", 3);
        worth("y:!(1=1&1=2)?2;y:3", 2);
        worth("y:1=2|1=2|1=1?2;y:3", 2);
        worth("y:t*10>l-11&k=1?t*10;y:3", 40);
    }

    private static void strikes() {
        CopperTies x = Check.belt(ROW);
        // 0 keeps 15 of 30, 1 keeps 7 of 15, 8 go on and 1 is lost by salt: 2 keeps 7
        due("strike(0, 30)", x.strike(0, 30), 5);
        due("bears less", x.house(0, 2), 8);
        due("burnt", x.house(0, 4), 1);
        due("bears less", x.house(2, 2), 5);
        due("bears as before", x.house(1, 2), 20);
        due("not burnt", x.house(1, 4), 0);
        due("strike(3, 12)", x.strike(3, 12), 0);
        due("strike(3, 999)", x.strike(3, 999), 8);
        due("strike(4, 0)", x.strike(4, 0), -1);
        due("strike(-1, 5)", x.strike(-1, 5), -1);
        due("strike(0, 0)", x.strike(0, 0), -1);
        due("strike(0, 1000)", x.strike(0, 1000), -1);
        due("status(0)", x.status(0), 2);
        due("status(1)", x.status(1), 2);
        due("acts", x.count(14), 3);
        CopperTies y = Check.belt("hl1;h");
        for (int i = 0; i < 101; i++) {
            y.strike(0, 2);
        }
        due("bears 1 at least", y.house(0, 2), 1);
        due("burnt 99 at most", y.house(0, 4), 99);
    }

    private static void laysAndCuts() {
        CopperTies x = Check.belt("sc20;hx0;hx9;hx9k2;hx2k2;h;wa0b1");
        due("lay(1, 0)", x.lay(1, 0), -1);
        due("lay(2, 3)", x.lay(2, 3), -1);
        due("status(2)", x.status(2), 2);
        due("lay(0, 0)", x.lay(0, 0), -1);
        due("lay(0, 5)", x.lay(0, 5), -1);
        due("lay(-1, 0)", x.lay(-1, 0), -1);
        due("status(0)", x.status(0), 3);
        due("lay(2, 1)", x.lay(2, 1), 1);
        due("alike in place: 1", x.count(6), 19);
        due("its houses", x.wire(1, 0), 2);
        due("its houses", x.wire(1, 1), 1);
        due("its salt", x.wire(1, 2), 0);
        due("lay(4, 2)", x.lay(4, 2), 2);
        due("copper", x.count(6), 10);
        due("lay(2, 0)", x.lay(2, 0), 3);
        due("copper", x.count(6), 1);
        due("lay(0, 3)", x.lay(0, 3), -1);
        due("status(4)", x.status(4), 1);
        due("lay(0, 4) for the last", x.lay(0, 4), 4);
        due("cut(4): half of 1", x.cut(4), 0);
        due("cut(0): half of 9", x.cut(0), 4);
        due("cut(0) again", x.cut(0), -1);
        due("cut(5)", x.cut(5), -1);
        due("cut(-1)", x.cut(-1), -1);
        due("status(3)", x.status(3), 1);
        due("status(0)", x.status(0), 5);
        due("where one was cut", x.lay(0, 3), 5);
        CopperTies y = Check.belt("sc99;hx0;hx20;w");
        due("copper 99 at most", y.cut(0), 99);
        for (int i = 1; i < 16; i++) {
            y.summers(7);
            due("wire", y.lay(0, 1), i);
            y.cut(i);
        }
        due("a seventeenth", y.lay(0, 1), -1);
        due("status(2)", y.status(2), 1);
        due("none could be laid", y.marry(0, 5, 0), -1);
        due("none could be laid", y.marry(0, 5, 1), -1);
        due("but played for", y.game(0, 1, 10, 1, 1, 0), 15);
    }

    private static void scrapesAndGrounds() {
        CopperTies x = Check.belt("sc6;hl85;hl95;ws3;h;wb2");
        due("scrape(0)", x.scrape(0), 5);
        due("salt", x.wire(0, 2), 0);
        due("scrape(0) again", x.scrape(0), -1);
        due("scrape(1)", x.scrape(1), -1);
        due("scrape(2)", x.scrape(2), -1);
        due("scrape(-1)", x.scrape(-1), -1);
        due("status(3)", x.status(3), 2);
        due("status(0)", x.status(0), 2);
        due("ground(1)", x.ground(1), 99);
        due("copper", x.count(6), 0);
        due("ground(0)", x.ground(0), -1);
        due("ground(3)", x.ground(3), -1);
        due("status(4)", x.status(4), 1);
        x.summers(1);
        x.cut(0);
        due("a cut one", x.scrape(0), -1);
        due("status(3)", x.status(3), 3);
        x.scrape(1);
        x.summers(1);
        x.ground(0);
        due("bears 95", x.house(0, 2), 95);
        due("copper", x.count(6), 0);
        due("no copper", x.scrape(1), -1);
        due("status(4)", x.status(4), 2);
        x.summers(4);
        due("beyond 99 is 99", x.ground(0), 99);
        due("99 stays", x.ground(0), 99);
        due("but it takes copper", x.count(6), 2);
    }

    private static void summersPass() {
        CopperTies x = Check.belt("sc90;h;h;h;ws7;wb2;wa1b2");
        x.cut(1);
        due("copper", x.count(6), 90);
        due("summers(2)", x.summers(2), 2);
        due("salt 9", x.wire(0, 2), 9);
        due("not live", x.wire(0, 4), 0);
        due("a cut one keeps its salt", x.wire(1, 2), 0);
        due("salt 2", x.wire(2, 2), 2);
        due("copper", x.count(6), 96);
        due("each is an act", x.count(14), 3);
        due("summers(2)", x.summers(2), 4);
        due("salt 9 at most", x.wire(0, 2), 9);
        due("copper 99 at most", x.count(6), 99);
        due("summers(0)", x.summers(0), -1);
        due("summers(61)", x.summers(61), -1);
        due("status(1)", x.status(1), 2);
        for (int i = 0; i < 16; i++) {
            x.summers(60);
        }
        due("summer 964", x.count(5), 964);
        due("beyond 999", x.summers(36), -1);
        due("status(1)", x.status(1), 3);
        due("up to 999", x.summers(35), 999);
        due("none goes by then", x.summers(1), -1);
        due("nor by draws", x.decades(1, 1), -1);
        due("status(1)", x.status(1), 4);
        due("40 acts", x.count(14), 40);
        CopperTies y = new CopperTies();
        due("no belt", y.summers(0), -1);
        due("status(0)", y.status(0), 1);
        due("status(1)", y.status(1), 0);
    }

    private static void setAndDecades() {
        CopperTies x = Check.belt("sc10;ht2l9;ht3l9;hx5t4l9;wa0b1;wa1b2");
        due("set(0, 5): it is so", x.set(0, 5), false);
        due("set(1, 0): it is so", x.set(1, 0), false);
        due("set(0, 10)", x.set(0, 10), false);
        due("set(0, -1)", x.set(0, -1), false);
        due("set(2, 1)", x.set(2, 1), false);
        due("set(1, 9)", x.set(1, 9), true);
        // draws: 4 below 5; 3 of 9 is house 1; 48 and 1 for v; 0 below 9; wire 0 of 2
        due("decades(1, 1)", x.decades(1, 1), 1);
        due("house", x.log(0, 0), 1);
        due("v", x.log(0, 1), 49);
        // 17, 16 and 16: all burn
        due("burned", x.log(0, 2), 7);
        due("wire 0 is cut", x.wire(0, 3), 1);
        due("without salt", x.wire(0, 2), 0);
        due("wire 1 is not", x.wire(1, 3), 0);
        due("salt", x.wire(1, 2), 1);
        due("copper for the summer alone", x.count(6), 13);
        due("one act", x.count(14), 1);
        due("undone", x.undo(), 0);
        due("no log", x.count(13), 0);
        due("wire 0 is not cut", x.wire(0, 3), 0);
        due("bears", x.house(2, 2), 9);
        x.set(1, 0);
        // draws: 9; 3; then 5 is not below 5; 8
        due("decades(2, 3)", x.decades(2, 3), 2);
        due("no stroke", x.count(13), 0);
        due("two acts", x.count(14), 2);
        due("set(0, 6)", x.set(0, 6), true);
        // 9; 3; 5 is below 6: 7 of 9 is house 2
        due("decades(2, 3)", x.decades(2, 3), 4);
        due("one stroke", x.count(13), 1);
        due("house", x.log(0, 0), 2);
        due("v", x.log(0, 1), 88);
        due("decades(0, 1)", x.decades(0, 1), -1);
        due("decades(61, 1)", x.decades(61, 1), -1);
        due("no status", x.status(0) + x.status(1), 0);
        due("no belt", new CopperTies().decades(1, 1), -1);
        CopperTies y = Check.belt("h;h");
        y.set(1, 9);
        due("no wires, no draw of them", y.decades(60, -1), 60);
    }

    private static void statusCounts() {
        CopperTies x = Check.belt("sc0;h;h;ws1;hk2;hk2");
        x.cut(7);
        x.strike(0, 0);
        x.lay(2, 3);
        x.ground(0);
        x.scrape(0);
        x.lay(0, 2);
        x.lay(9, 9);
        int[] want = {2, 1, 1, 0, 3};
        for (int i = 0; i < 5; i++) {
            due("status(" + i + ")", x.status(i), want[i]);
        }
        due("status(5)", x.status(5), -1);
        due("status(-1)", x.status(-1), -1);
        x.cut(0);
        x.cut(0);
        x.undo();
        due("status is not undone", x.status(3), 1);
        due("undo of none", x.undo(), -1);
        due("is no status", x.status(0), 2);
        x.scrape(0);
        due("no copper again", x.status(4), 4);
    }

    private static void actsUndone() {
        CopperTies x = Check.belt(ROW);
        x.strike(0, 30);
        x.lay(0, 3);
        x.scrape(1);
        x.cut(0);
        x.ground(1);
        x.summers(2);
        due("acts", x.count(14), 7);
        due("a summer", x.undo(), 6);
        due("one left", x.count(5), 1);
        due("salt", x.wire(1, 2), 1);
        due("the other summer", x.undo(), 5);
        due("copper", x.count(6), 30 - 10 - 1 + 1 - 5);
        due("ground", x.undo(), 4);
        due("bears", x.house(1, 2), 20);
        due("cut", x.undo(), 3);
        due("not cut", x.wire(0, 3), 0);
        due("scrape", x.undo(), 2);
        due("salt", x.wire(1, 2), 1);
        due("lay", x.undo(), 1);
        due("no such wire", x.wire(2, 0), -1);
        due("copper", x.count(6), 30);
        due("stroke", x.undo(), 0);
        due("bears", x.house(0, 2), 9);
        due("burnt", x.house(0, 4), 0);
        due("log", x.count(13), 0);
        due("none", x.undo(), -1);
        CopperTies y = Check.belt("h;h");
        y.summers(60);
        for (int i = 39; i >= 0; i--) {
            due("undo", y.undo(), i);
        }
        due("the latest 40 alone", y.undo(), -1);
        due("summer", y.count(5), 20);
    }

    private static void logTold() {
        CopperTies x = Check.belt("hl99;hl5");
        for (int i = 1; i <= 70; i++) {
            x.strike(i % 2, i);
        }
        due("the latest 60", x.count(13), 60);
        due("log(0, 0)", x.log(0, 0), 0);
        due("log(0, 1)", x.log(0, 1), 70);
        due("log(0, 2)", x.log(0, 2), 0);
        due("log(1, 0)", x.log(1, 0), 1);
        due("log(1, 1)", x.log(1, 1), 69);
        due("log(1, 2)", x.log(1, 2), 2);
        due("log(59, 1)", x.log(59, 1), 11);
        due("log(60, 1)", x.log(60, 1), -1);
        due("log(-1, 1)", x.log(-1, 1), -1);
        due("log(0, 3)", x.log(0, 3), -1);
        due("log(0, -1)", x.log(0, -1), -1);
        for (int i = 0; i < 40; i++) {
            x.undo();
        }
        due("what was pushed out is there again", x.count(13), 30);
        due("log(0, 1)", x.log(0, 1), 30);
        due("log(29, 1)", x.log(29, 1), 1);
        due("log(30, 1)", x.log(30, 1), -1);
    }

    private static void strokesGo() {
        CopperTies x = Check.belt(ROW);
        due("keeps(0, 30, 0)", x.keeps(0, 30, 0), 15);
        due("keeps(0, 30, 1)", x.keeps(0, 30, 1), 7);
        due("keeps(0, 30, 2)", x.keeps(0, 30, 2), 7);
        due("keeps(0, 30, 3)", x.keeps(0, 30, 3), 0);
        due("lost(0, 30)", x.lost(0, 30), 1);
        due("burning(0, 30)", x.burning(0, 30), 5);
        // 1 keeps 10 of 31 and 1 that is left over; 10 to each side, 1 of it lost
        due("keeps(1, 31, 1)", x.keeps(1, 31, 1), 11);
        due("keeps(1, 31, 0)", x.keeps(1, 31, 0), 10);
        due("keeps(1, 31, 2)", x.keeps(1, 31, 2), 9);
        due("nothing is changed", x.house(0, 2), 9);
        due("nothing is logged", x.count(13), 0);
        // a part no more than the salt is lost
        CopperTies y = Check.belt("h;h;ws5", "y:p-5");
        due("lost(0, 9): 5 of 5", y.lost(0, 9), 5);
        due("keeps(0, 9, 1)", y.keeps(0, 9, 1), 0);
        due("keeps(0, 9, 0)", y.keeps(0, 9, 0), 4);
        due("lost(0, 3): 3 of 3", y.lost(0, 3), 3);
        CopperTies z = Check.belt("h;h;ws4", "y:p-5");
        due("keeps(0, 9, 1): one comes", z.keeps(0, 9, 1), 1);
        // DRY more, but never more than came
        CopperTies d = Check.belt("sd9;h;h;w");
        due("15 and 9", d.keeps(0, 30, 0), 24);
        due("held within p", d.keeps(0, 5, 0), 5);
        due("nothing goes", d.keeps(0, 5, 1), 0);
        // a ring that keeps nothing at first: 20 each way; what comes second is kept whole
        CopperTies r = Check.belt("h;h;h;wa0b2;wa0b1;wa1b2", "y:0");
        due("ring keeps 0", r.keeps(0, 40, 0), 0);
        due("ring keeps 1", r.keeps(0, 40, 1), 20);
        due("ring keeps 2", r.keeps(0, 40, 2), 20);
        due("ring burns none", r.burning(0, 40), 0);
        due("ring burns two", r.burning(0, 42), 6);
        // a ring that keeps half at first
        CopperTies q = Check.belt("hl99;h;h;wa0b1;wa1b2;wa2b0", "y:t=3?p/2");
        // 0 keeps 50, 25 each; 1 keeps 12, 13 on to 2; 2 keeps 12 of its first 25, 13 on to 1
        due("first 50", q.keeps(0, 100, 0), 50);
        due("12 and 13", q.keeps(0, 100, 1), 25);
        due("12 and 13", q.keeps(0, 100, 2), 25);
        due("keeps(0, 0, 0)", x.keeps(0, 0, 0), -1);
        due("keeps(0, 1000, 0)", x.keeps(0, 1000, 0), -1);
        due("keeps(4, 1, 0)", x.keeps(4, 1, 0), -1);
        due("keeps(0, 1, 4)", x.keeps(0, 1, 4), -1);
        due("burning(4, 1)", x.burning(4, 1), -1);
        due("burning(0, 0)", x.burning(0, 0), -1);
        due("burning(3, 12)", x.burning(3, 12), 0);
        due("burning(3, 13)", x.burning(3, 13), 8);
        due("lost(-1, 1)", x.lost(-1, 1), -1);
        due("lost(0, 1000)", x.lost(0, 1000), -1);
    }

    private static void coupled() {
        CopperTies x = Check.belt("hx0;hx10;hx1;hx12");
        due("couples(0)", x.couples(0), 3);
        due("couples(1)", x.couples(1), 2301);
        due("couples(2)", x.couples(2), -1);
        due("couples(-1)", x.couples(-1), -1);
        CopperTies odd = Check.belt("hx0;hx10;hx1");
        due("an odd one", odd.couples(0), 1);
        due("stays alone", odd.couples(1), 210);
        CopperTies alike = Check.belt("h;h;h;h;h");
        due("of several the least", alike.couples(1), 2143);
        due("no way at all", alike.couples(0), 0);
        CopperTies chapels = Check.belt("hx0k2;hx1k2;hx20;hx9");
        due("no two chapels", chapels.couples(0), 9 + 19);
        due("the least row", chapels.couples(1), 2301);
        CopperTies none = Check.belt("hk2;hk2;hk2;h");
        due("there are none", none.couples(0), -1);
        due("there are none", none.couples(1), -1);
        CopperTies three = Check.belt("hk2;hk2;h");
        due("a chapel alone", three.couples(1), 21);
        CopperTies eight = Check.belt("hx0;hx5;hx1;hx6;hx2;hx7;hx3;hx8");
        due("eight", eight.couples(0), 4);
        due("eight", eight.couples(1), 23016745);
    }

    private static void layAndCuts() {
        CopperTies x = Check.belt("sc8;hx0l9;hx8l20;hx9l20;hx1l5k2;hx1k2");
        // 0 alone burns by 10; with 1, 3 or 4 it keeps 5 and the other 5: none burns
        due("marry(0, 10, 0)", x.marry(0, 10, 0), 1);
        due("marry(0, 10, 1)", x.marry(0, 10, 1), 0);
        // by 30: 15 each, 0 burns; with 3 both burn; 02 takes too much; all others leave 0 burning
        due("marry(0, 30, 1)", x.marry(0, 30, 1), 1);
        due("marry(0, 30, 0)", x.marry(0, 30, 0), 1);
        due("not two chapels, not two far apart", x.marry(3, 10, 0), 3);
        due("marry(5, 10, 0)", x.marry(5, 10, 0), -1);
        due("marry(0, 0, 0)", x.marry(0, 0, 0), -1);
        due("marry(0, 10, 2)", x.marry(0, 10, 2), -1);
        CopperTies poor = Check.belt("sc0;h;h");
        due("no copper", poor.marry(0, 10, 0), -1);
        CopperTies wed = Check.belt("h;h;ws9");
        due("there is a wire", wed.marry(0, 30, 0), -1);
        CopperTies y = Check.belt("hl40;hl10;hl10;w;wb2;wa1b2");
        // 1 and 2 bear 10 each: with a way to them both burn, or one; cut off, 0 burns by 60
        due("parting(0, 60, 1)", y.parting(0, 60, 1), 1);
        due("parting(0, 60, 0)", y.parting(0, 60, 0), 3);
        due("parting(0, 12, 0): none at all", y.parting(0, 12, 0), 0);
        due("parting(0, 12, 1)", y.parting(0, 12, 1), 0);
        due("parting(3, 12, 1)", y.parting(3, 12, 1), -1);
        due("parting(0, 1000, 1)", y.parting(0, 1000, 1), -1);
        due("parting(0, 12, 2)", y.parting(0, 12, 2), -1);
        due("nothing is cut", y.count(8), 7);
    }

    private static void borne() {
        CopperTies x = Check.belt(ROW);
        due("stands(0)", x.stands(0), 12);
        due("stands(1)", x.stands(1), 3);
        due("stands(2)", x.stands(2), -1);
        due("earth()", x.earth(), 3);
        CopperTies one = Check.belt("hl7;hl7;hl9");
        due("stands at the lowest", one.stands(0), 7);
        due("the lowest of several", one.stands(1), 0);
        due("all alike: the lowest", one.earth(), 0);
        // 1 is the weaker one; EARTHED, it is 0 that burns first
        CopperTies two = Check.belt("sc0;hl9;hl7");
        due("earth without copper", two.earth(), 1);
        // all goes to the other one, 8 less
        CopperTies wet = Check.belt("hl99;hl99;ws8", "y:0");
        due("99 and 8", wet.stands(0), 107);
        due("by either, the lowest", wet.stands(1), 0);
        due("no more than 99", wet.earth(), 0);
        due("as much as it bears does not burn it", Check.belt("hl99;hl98").earth(), 1);
        due("no belt", new CopperTies().earth(), -1);
        due("no belt", new CopperTies().stands(0), -1);
        due("bears as before", x.house(3, 2), 12);
        // at 1 all goes to 0; at 0 half stays, and of 11 six go to 1, which burns
        CopperTies sly = Check.belt("hl30;hl5;w", "y:l>20?p/2");
        due("sly stands", sly.stands(0), 10);
        due("sly weakest", sly.stands(1), 0);
        // EARTHED, 1 keeps all of 20 and less: 40 stand; 0, EARTHED, bears 30 of what 1 lets go
        due("what it bears is in the law", Check.belt("hl20;hl10;w", "y:l*2-20").earth(), 1);
    }

    /** Eight houses and sixteen wires: whatever two are cut, one comes from each to each. */
    private static void crowded() {
        CopperTies x = Check.belt("sc99;hl1;hl1;hl1;hl1;hl1;hl1;hl1;hl1;wa0b1;wa1b2;wa2b3;wa3b4;wa4b5;wa5b6;wa6b7;wa7b0");
        for (int h = 0; h < 8; h++) {
            due("lay", x.lay(h, (h + 2) % 8), 8 + h);
        }
        due("a seventeenth", x.lay(0, 4), -1);
        for (int struck = 0; struck < 8; struck++) {
            int sum = 0;
            for (int h = 0; h < 8; h++) {
                sum += x.keeps(struck, 999, h);
            }
            due("nothing is lost", sum, 999);
        }
        due("all burn", x.burning(0, 999), 255);
        due("all burn anyway", x.parting(0, 999, 1), 8);
        due("so none is cut", x.parting(0, 999, 0), 0);
        due("rings", x.net(0), 9);
        due("no bridges", x.net(1), 0);
        due("all pairs", x.who(2, -1), 120);
        due("the last pair", x.who(2, 119), 49152);
        due("played for a seventeenth", x.game(0, 4, 999, 1, 1, 0) < 0, true);
        x.cut(15);
        due("cut ones count, too", x.lay(0, 4), -1);
        x.undo();
        x.undo();
        due("all burn by any wire more", x.marry(0, 999, 1), 8);
        due("the least", x.marry(0, 999, 0), 3);
    }

    private static void nets() {
        CopperTies x = Check.belt("h;h;h;h;h;h;wa0b1;wa1b2;wa2b0;wa2b3;wa4b5s9");
        due("single()", x.single(), 48);
        due("town(0)", x.town(0), 15);
        due("town(3)", x.town(3), 15);
        due("town(5)", x.town(5), 32);
        due("town(6)", x.town(6), -1);
        due("town(-1)", x.town(-1), -1);
        due("net(0)", x.net(0), 1);
        due("net(1)", x.net(1), 8);
        due("net(2)", x.net(2), -1);
        x.cut(0);
        due("no ring", x.net(0), 0);
        due("all are bridges", x.net(1), 14);
        x.scrape(4);
        due("live again", x.single(), 0);
        due("town(4)", x.town(4), 48);
        x.cut(3);
        due("3 is single", x.single(), 8);
        due("no belt", new CopperTies().single(), -1);
        due("no belt", new CopperTies().net(0), -1);
        due("no belt", new CopperTies().town(0), -1);
    }

    private static void games() {
        CopperTies x = Check.belt(ROW);
        // apart 0 keeps 6 of 13, 3 all; joined 0 keeps 5 of its own and 3 keeps 6 of its own,
        // which is more than what comes from the other
        due("apart, one", x.game(0, 3, 13, 0, 0, 0), 9 - 6);
        due("apart, other", x.game(0, 3, 13, 1, 0, 1), 12 - 13);
        due("joined, one", x.game(0, 3, 13, 1, 1, 0), 4);
        due("joined, other", x.game(0, 3, 13, 1, 1, 1), 6);
        due("turned round", x.game(3, 0, 13, 1, 1, 0), 6);
        due("two rests", x.rests(0, 3, 13, -1), 2);
        due("the first", x.rests(0, 3, 13, 0), 0);
        due("the second", x.rests(0, 3, 13, 1), 11);
        due("no third", x.rests(0, 3, 13, 2), -1);
        due("rests(-2)", x.rests(0, 3, 13, -2), -1);
        due("two chapels", Check.belt("hk2;hk2").game(0, 1, 5, 0, 0, 0), -1000000);
        due("two chapels rest", Check.belt("hk2;hk2").rests(0, 1, 5, -1), -1);
        due("a wire between", x.game(0, 1, 13, 0, 0, 0), -1000000);
        due("alike", x.game(0, 0, 13, 0, 0, 0), -1000000);
        due("no such one", x.game(0, 4, 13, 0, 0, 0), -1000000);
        due("v", x.game(0, 3, 0, 0, 0, 0), -1000000);
        due("x", x.game(0, 3, 1, 2, 0, 0), -1000000);
        due("y", x.game(0, 3, 1, 0, -1, 0), -1000000);
        due("what", x.game(0, 3, 1, 0, 0, 2), -1000000);
        due("rests v", x.rests(0, 3, 1000, -1), -1);
        due("rests a wire between", x.rests(0, 1, 13, -1), -1);
        due("no wire came of it", x.count(1), 2);
        // a wire full of salt is between them still; a cut one is not
        CopperTies y = Check.belt("h;h;ws9");
        due("full of salt", y.game(0, 1, 5, 0, 0, 0), -1000000);
        y.cut(0);
        due("cut", y.game(0, 1, 5, 0, 0, 0), 15);
        // by a law that sends all on, joined each keeps as much as apart: all four rest
        CopperTies z = Check.belt("h;h", "y:0");
        due("all four", z.rests(0, 1, 10, -1), 4);
        due("the second", z.rests(0, 1, 10, 1), 1);
        due("the third", z.rests(0, 1, 10, 2), 10);
        due("the fourth", z.rests(0, 1, 10, 3), 11);
        // 0, a BANK, keeps all that comes, the others nothing
        CopperTies u = Check.belt("hk1;h;h;wb2", "y:k=1?p;y:0");
        // apart 0 keeps 10 of its own, 1 keeps 10 of its own; joined 0 keeps 10 by either, 1 none
        due("0 does not mind", u.game(0, 1, 10, 1, 1, 0), 10);
        due("1 keeps none", u.game(0, 1, 10, 1, 1, 1), 20);
        due("1 keeps all", u.game(0, 1, 10, 0, 1, 1), 10);
        // 00, 01 (0 has no more by joining), 11; 10 not: 1 would have more by joining
        due("three rest", u.rests(0, 1, 10, -1), 3);
        due("u first", u.rests(0, 1, 10, 0), 0);
        due("u second", u.rests(0, 1, 10, 1), 1);
        due("u third", u.rests(0, 1, 10, 2), 11);
    }

    private static void leaving() {
        // joined each keeps half; apart all: nobody would leave
        CopperTies x = Check.belt("h;h;w");
        due("leaves(30)", x.leaves(30), 0);
        due("leaves(0)", x.leaves(0), -1);
        due("leaves(1000)", x.leaves(1000), -1);
        due("no belt", new CopperTies().leaves(1), -1);
        // with one way on all goes, with two half is kept
        CopperTies y = Check.belt("h;h;h;w;wa1b2", "y:n=1?0;y:p/2");
        // at 1, which has two: 15 and 1 left over are kept, 7 go each way. Without either wire 1
        // has one way alone and keeps nothing of its own, and nothing comes from the one cut off
        due("leaves(30)", y.leaves(30), 3);
        y.summers(9);
        due("none is live", y.leaves(30), 0);
    }

    private static void cutByScorches() {
        CopperTies x = Check.belt("hl10;hl10;hl10;w;wa1b2;wa0b2");
        due("who(0, -1) at first", x.who(0, -1), 1);
        due("who(1, -1) at first", x.who(1, -1), 3);
        due("who(2, -1) at first", x.who(2, -1), 3);
        due("who(2, 0)", x.who(2, 0), 3);
        due("who(2, 1)", x.who(2, 1), 5);
        due("who(2, 2)", x.who(2, 2), 6);
        due("who(2, 3)", x.who(2, 3), -1);
        due("who(2, -2)", x.who(2, -2), -1);
        due("who(3, -1)", x.who(3, -1), -1);
        due("who(-1, -1)", x.who(-1, -1), -1);
        due("sure(1) at first", x.sure(1), 0);
        // by 24 at 0, whole: 8, 8 to each, 4 of each kept and 4 sent: 8 8 8: none burns.
        // without wire 0: 12 at 0, 6 at 2, 6 at 1: 0 burns
        due("scorched(0, 24, 0, true)", x.scorched(0, 24, 0, true), 1);
        due("not by none", x.who(0, -1), 0);
        due("sure(0)", x.sure(0), -1);
        due("best(0)", x.best(0), -1);
        due("by one", x.who(1, -1), 2);
        due("wire 0", x.who(1, 0), 1);
        due("or wire 2", x.who(1, 1), 4);
        due("none is sure", x.sure(1), 0);
        // by 22 at 1, without wire 0: 11 at 1; without wire 2: 8 at 1, as it has both
        due("scorched(1, 22, 1, true)", x.scorched(1, 22, 1, true), 2);
        due("wire 0 alone", x.who(1, -1), 1);
        due("wire 0 alone", x.who(1, 0), 1);
        due("sure(1)", x.sure(1), 1);
        due("all pairs fit", x.who(2, -1), 3);
        due("sure(2)", x.sure(2), 0);
        due("all burn by 50 anyway", x.best(1), 0);
        due("scorched(3, 1, 0, true)", x.scorched(3, 1, 0, true), -1);
        due("scorched(0, 1, 3, true)", x.scorched(0, 1, 3, true), -1);
        due("scorched(0, 0, 0, true)", x.scorched(0, 0, 0, true), -1);
        for (int i = 3; i <= 10; i++) {
            due("scorched, the same one", x.scorched(0, 1, 0, false), i);
        }
        due("there are ten", x.scorched(0, 1, 0, false), -1);
        due("count(11)", x.count(11), 10);
        due("no belt", new CopperTies().scorched(0, 1, 0, true), -1);
        due("no belt", new CopperTies().who(0, -1), -1);
        CopperTies y = Check.belt("hl30;hl30;hl60;hl60;wa0b1;wa2b3");
        // 50 at 0 burns somebody if wire 0 is cut, and nobody if wire 1 is; 2 bears it anyway
        due("best(1)", y.best(1), 0);
        CopperTies z = Check.belt("hl60;hl60;hl30;hl30;wa0b1;wa2b3");
        due("best(1) further on", z.best(1), 2);
        due("best(0)", z.best(0), 0);
        due("best(3)", z.best(3), -1);
        due("who: live ones alone", Check.belt("h;h;ws9").who(1, -1), 0);
    }

    private static void oddsAndPremiums() {
        CopperTies x = Check.belt(ROW);
        // heights 4, 5, 1, 3; by 30 house 2 burns of strokes at 0, 1, 2
        due("odds(2, 30)", x.odds(2, 30), 307692307 + 384615384 + 76923076);
        due("odds(3, 13)", x.odds(3, 13), 230769230);
        due("odds(3, 12)", x.odds(3, 12), 0);
        due("odds(4, 1)", x.odds(4, 1), -1);
        due("odds(0, 0)", x.odds(0, 0), -1);
        due("premium(2, 30, 100)", x.premium(2, 30, 100), 77);
        due("premium(3, 12, 999)", x.premium(3, 12, 999), 0);
        due("premium(3, 13, 1)", x.premium(3, 13, 1), 1);
        due("premium(0, 1, 0)", x.premium(0, 1, 0), -1);
        due("premium(0, 1, 1000)", x.premium(0, 1, 1000), -1);
        due("premium(4, 1, 1)", x.premium(4, 1, 1), -1);
        due("premium(0, 1000, 1)", x.premium(0, 1000, 1), -1);
        CopperTies sure = Check.belt("hl1t1;hl1t1;w");
        due("by either", sure.odds(0, 999), 1000000000);
        due("whole", sure.premium(0, 999, 999), 999);
        due("half by itself", Check.belt("hl1t1;ht1").odds(0, 2), 500000000);
        due("half by itself", Check.belt("hl1t1;ht1").premium(0, 2, 10), 5);
    }

    private static void testsTold() {
        CopperTies x = Check.belt("h;h");
        due("stroke() at first", x.stroke(), 500000);
        due("a smell", x.test(0, true), 1);
        due("8 by 11", x.stroke(), 727272);
        due("no mark", x.test(1, false), 2);
        // 24 and 27
        due("24 by 51", x.stroke(), 470588);
        due("a hum", x.test(2, true), 3);
        // 144 and 135
        due("144 by 279", x.stroke(), 516129);
        due("no smell", x.test(0, false), 4);
        // 288 and 945
        due("288 by 1233", x.stroke(), 233576);
        due("a mark", x.test(1, true), 5);
        // 2016 and 945
        due("2016 by 2961", x.stroke(), 680851);
        due("no hum", x.test(2, false), 6);
        // 8064 and 4725
        due("8064 by 12789", x.stroke(), 630541);
        due("test(3)", x.test(3, true), -1);
        due("test(-1)", x.test(-1, true), -1);
        for (int i = 7; i <= 12; i++) {
            due("test", x.test(1, true), i);
        }
        due("there are 12", x.test(0, true), -1);
        due("count(12)", x.count(12), 12);
        due("no belt", new CopperTies().test(0, true), -1);
        due("no belt", new CopperTies().stroke(), -1);
        CopperTies y = Check.belt("h;h");
        for (int i = 0; i < 12; i++) {
            y.test(1, false);
        }
        // 3 to the 12th and 9 to the 12th
        due("12 without a mark", y.stroke(), 1000000 / (531441 + 1));
    }

    private static void farAndMost() {
        CopperTies x = Check.belt("hx20t3;hx3t7;ht7;wa0b1s2;wa1b2s8;wa0b2s8");
        due("far(0, 1)", x.far(0, 1), 17);
        due("far(1, 0)", x.far(1, 0), 17);
        due("far(1, 1)", x.far(1, 1), 0);
        due("far(0, 3)", x.far(0, 3), -1);
        due("far(-1, 0)", x.far(-1, 0), -1);
        due("most(0)", x.most(0), 1);
        due("most(1)", x.most(1), 0);
        due("most(2)", x.most(2), 1);
        due("most(3)", x.most(3), -1);
        due("most(-1)", x.most(-1), -1);
        x.cut(1);
        due("a cut one not", x.most(2), 2);
        x.summers(1);
        due("one full of salt not", x.most(2), 0);
        x.cut(0);
        due("none is live", x.most(2), -1);
        x.strike(2, 99);
        due("the one that has burnt", x.most(1), 2);
        x.strike(1, 99);
        due("of several the lowest", x.most(1), 1);
        due("no belt", new CopperTies().most(0), -1);
    }

    private static void images() {
        CopperTies x = Check.belt(ROW);
        x.strike(0, 30);
        x.summers(3);
        x.lay(0, 2);
        x.cut(0);
        due("image()", x.image(), 3);
        due("acts stay", x.count(14), 6);
        int copper = x.count(6);
        for (int i = 0; i < 4; i++) {
            x.undo();
        }
        x.lay(1, 3);
        x.scrape(1);
        x.ground(0);
        x.strike(3, 99);
        x.scorched(0, 1, 0, false);
        x.test(0, true);
        due("back()", x.back(), 3);
        due("no act can be undone", x.undo(), -1);
        due("copper", x.count(6), copper);
        due("wires", x.count(1), 3);
        due("its houses", x.wire(2, 0), 0);
        due("its houses", x.wire(2, 1), 2);
        due("cut", x.wire(0, 3), 1);
        due("salt", x.wire(1, 2), 4);
        due("bears", x.house(0, 2), 8);
        due("burnt", x.house(3, 4), 0);
        due("log", x.count(13), 1);
        due("log", x.log(0, 1), 30);
        due("scorched stays", x.count(11), 1);
        due("tests stay", x.count(12), 1);
        x.summers(1);
        due("acts anew", x.undo(), 0);
        due("back() again", x.back(), 3);
        x.summers(5);
        due("instead of the one ahead", x.image(), 8);
        x.summers(1);
        due("back()", x.back(), 8);
        due("no belt", new CopperTies().image(), -1);
        due("no image", Check.belt("h;h").back(), -1);
        CopperTies y = Check.belt("h;h");
        for (int i = 1; i <= 65; i++) {
            y.strike(0, i);
        }
        y.image();
        y.strike(1, 99);
        y.back();
        due("log of 60", y.count(13), 60);
        due("the latest", y.log(0, 1), 65);
        due("the oldest", y.log(59, 1), 6);
        y.strike(1, 77);
        due("goes on", y.log(1, 1), 65);
    }

    private static void counts() {
        CopperTies x = Check.belt("sc8d4;h;h;h;w;wb2s9", "y:p");
        Check.tape(x, "abc");
        x.set(0, 1);
        x.set(1, 2);
        x.strike(0, 5);
        x.summers(2);
        x.scorched(0, 1, 0, true);
        x.test(0, true);
        x.test(0, true);
        int[] want = {3, 2, 1, 3, 0, 2, 14, 4, 1, 1, 2, 1, 2, 1, 3};
        for (int i = 0; i < want.length; i++) {
            due("count(" + i + ")", x.count(i), want[i]);
        }
        due("count(15)", x.count(15), -1000000);
        due("count(-1)", x.count(-1), -1000000);
    }
}
