import java.math.BigInteger;

/** The edges of acts: promises 6 to 19, 44 and 45, and parts 2 and 4 of the terms. */
public final class ActEdgeTest {
    private static final String EIGHT = "hl1;hl1;hl1;hl1;hl1;hl1;hl1;hl1";

    private ActEdgeTest() {
    }

    public static void main(String[] args) {
        liveOrNot();
        strokesOfOneAndMost();
        burnsByMore();
        burntAndBears();
        layTakesCopper();
        layBesideOthers();
        layWhereOthersWere();
        layUpToSixteen();
        cutGivesCopper();
        scrapeTakesSalt();
        groundUpTo99();
        summersSaltAndPay();
        summersUpTo999();
        setWithin();
        statusOfEach();
        undoneOneByOne();
        undoneWhatIsNoAct();
        fortyActs();
        sixtyInTheLog();
        logUndone();
        decadesDraw();
        decadesAtTheirEdges();
        decadesCut();
        decadesUndone();
        decadesInTheLog();
        imagesKeep();
        imagesOfWires();
        imagesOfThisBelt();
        imagesOfALongLog();
        Check.finish();
    }

    private static void due(String call, long got, long want) {
        Check.due(call, got, want);
    }

    private static void due(String call, boolean got, boolean want) {
        Check.due(call, got, want);
    }

    // ---- part 2

    private static void liveOrNot() {
        CopperTies x = Check.belt("sc1;h;h;h;h;ws8;wa1b2s9;wa2b3");
        due("8 is live", x.wire(0, 4), 1);
        due("9 is not", x.wire(1, 4), 0);
        due("9 is not cut", x.wire(1, 3), 0);
        due("0 is live", x.wire(2, 4), 1);
        due("bits", x.count(8), 5);
        due("of house 1", x.house(1, 5), 1);
        due("of house 2", x.house(2, 5), 1);
        x.scrape(1);
        due("scraped it is live", x.wire(1, 4), 1);
        due("of house 1", x.house(1, 5), 2);
        x.cut(2);
        due("cut it is not live", x.wire(2, 4), 0);
        due("cut", x.wire(2, 3), 1);
        due("of house 3", x.house(3, 5), 0);
        x.summers(1);
        due("9 now", x.wire(0, 2), 9);
        due("not live", x.wire(0, 4), 0);
        due("bits", x.count(8), 2);
        Check.dueThrow("house(4, 5)", x, 4, 5);
        Check.dueThrow("house(0, 6)", x, 0, 6);
        Check.dueThrow("house(-1, 0)", x, -1, 0);
        Check.dueThrow("house(0, -1)", x, 0, -1);
        due("wire(3, 0)", x.wire(3, 0), -1);
        due("wire(2, 5)", x.wire(2, 5), -1);
    }

    private static void strokesOfOneAndMost() {
        CopperTies x = Check.belt("hl99;hl98");
        due("strike(0, 1)", x.strike(0, 1), 0);
        due("strike(1, 999)", x.strike(1, 999), 2);
        due("two in the log", x.count(13), 2);
        due("strike(0, 0)", x.strike(0, 0), -1);
        due("strike(0, 1000)", x.strike(0, 1000), -1);
        due("strike(2, 1)", x.strike(2, 1), -1);
        due("still two", x.count(13), 2);
        due("still two acts", x.count(14), 2);
        due("status(0)", x.status(0), 1);
        due("status(1)", x.status(1), 2);
    }

    private static void burnsByMore() {
        CopperTies x = Check.belt(EIGHT.replace("hl1", "hl5"));
        due("as much as it bears", x.strike(0, 5), 0);
        due("one more", x.strike(0, 6), 1);
        due("the eighth", x.strike(7, 6), 128);
        due("it bears one less", x.strike(7, 5), 128);
        due("two less", x.house(7, 2), 3);
        // what is kept in the stroke together: 0 sends all, half each way round, and 1 and 2 keep
        // nothing at first but what comes from the other one
        CopperTies ring = Check.belt("h;hl5;hl6;w;wb2;wa1b2", "y:0");
        due("5 each", ring.burning(0, 10), 0);
        due("5 each and 1 left over", ring.burning(0, 11), 0);
        due("6 each", ring.burning(0, 12), 2);
        due("7 each", ring.burning(0, 14), 6);
        // two parts that each are borne, together are not: 1 keeps half of 6 and 3 from 2
        CopperTies twice = Check.belt("hl99;hl5;hl6;w;wb2;wa1b2", "y:p/2");
        due("kept at 0", twice.keeps(0, 24, 0), 12);
        due("kept at 1: 3 and 3", twice.keeps(0, 24, 1), 6);
        due("kept at 2: 3 and 3", twice.keeps(0, 24, 2), 6);
        due("6 is more than 5, not than 6", twice.burning(0, 24), 2);
    }

    private static void burntAndBears() {
        CopperTies x = Check.belt("hl3;h");
        due("burns", x.strike(0, 4), 1);
        due("bears 2", x.house(0, 2), 2);
        due("burns", x.strike(0, 3), 1);
        due("bears 1", x.house(0, 2), 1);
        due("burns", x.strike(0, 2), 1);
        due("bears 1 at least", x.house(0, 2), 1);
        due("by 1 it does not burn", x.strike(0, 1), 0);
        due("burnt three times", x.house(0, 4), 3);
        due("the other never", x.house(1, 4), 0);
        for (int i = 4; i <= 98; i++) {
            x.strike(0, 2);
        }
        due("burnt 98", x.house(0, 4), 98);
        due("burns", x.strike(0, 2), 1);
        due("burnt 99", x.house(0, 4), 99);
        due("burns", x.strike(0, 2), 1);
        due("burnt 99 at most", x.house(0, 4), 99);
        due("undone", x.undo(), 39);
        due("burnt 99 still", x.house(0, 4), 99);
        due("undone", x.undo(), 38);
        due("burnt 98", x.house(0, 4), 98);
        due("bears 1", x.house(0, 2), 1);
    }

    private static void layTakesCopper() {
        CopperTies x = Check.belt("sc20;hx0;hx20");
        due("20 apart for 20", x.lay(0, 1), 0);
        due("none left", x.count(6), 0);
        CopperTies one = Check.belt("sc19;hx0;hx20");
        due("20 apart for 19", one.lay(0, 1), -1);
        due("19 still", one.count(6), 19);
        due("status(4)", one.status(4), 1);
        due("no wire", one.count(1), 0);
        CopperTies alike = Check.belt("sc2;hx7;hx7;hx8");
        due("in one place", alike.lay(0, 1), 0);
        due("takes 1", alike.count(6), 1);
        due("one apart", alike.lay(2, 0), 1);
        due("takes 1", alike.count(6), 0);
        due("for none", alike.lay(1, 2), -1);
        due("status(4)", alike.status(4), 1);
    }

    private static void layBesideOthers() {
        CopperTies x = Check.belt("h;hk2;hk2;h;ws9;wa1b3");
        due("full of salt, but not cut", x.lay(0, 1), -1);
        due("turned round", x.lay(1, 0), -1);
        due("two chapels", x.lay(2, 1), -1);
        due("status(2)", x.status(2), 3);
        due("a chapel and another", x.lay(0, 2), 2);
        x.cut(0);
        due("where one is cut", x.lay(1, 0), 3);
        due("its first house", x.wire(3, 0), 1);
        due("its second house", x.wire(3, 1), 0);
        due("without salt", x.wire(3, 2), 0);
        due("not cut", x.wire(3, 3), 0);
        due("live", x.wire(3, 4), 1);
        due("the cut one stays cut", x.wire(0, 3), 1);
        due("with its salt", x.wire(0, 2), 9);
        due("there is one again", x.lay(0, 1), -1);
        due("lay(0, 4)", x.lay(0, 4), -1);
        due("lay(4, 0)", x.lay(4, 0), -1);
        due("lay(2, 2)", x.lay(2, 2), -1);
        due("status(0)", x.status(0), 3);
    }

    /** A WIRE that is LAID has nothing of one that had its number ahead of it. */
    private static void layWhereOthersWere() {
        CopperTies x = Check.belt("h;h;h;ws5;wb2s9;wa1b2s3");
        x.cut(0);
        Check.tape(x, "h;h;h");
        x.text(0);
        due("joined without salt", x.game(0, 1, 30, 1, 1, 0), 5);
        due("lay", x.lay(1, 2), 0);
        due("without salt", x.wire(0, 2), 0);
        due("not cut", x.wire(0, 3), 0);
        due("of house 0", x.house(0, 5), 0);
        kept(x, 0, 30, 30, 0, 0);
        kept(x, 1, 30, 0, 15, 15);
        x.summers(4);
        x.undo();
        x.undo();
        x.undo();
        x.undo();
        due("undone", x.undo(), 0);
        due("lay", x.lay(0, 2), 0);
        due("without salt", x.wire(0, 2), 0);
        kept(x, 0, 30, 15, 0, 15);
        kept(x, 1, 30, 0, 30, 0);
    }

    private static void kept(CopperTies x, int struck, int v, int... want) {
        for (int h = 0; h < want.length; h++) {
            due("keeps(" + struck + ", " + v + ", " + h + ")", x.keeps(struck, v, h), want[h]);
        }
    }

    private static void layUpToSixteen() {
        CopperTies x = Check.belt("sc99;h;h;h");
        for (int i = 0; i < 16; i++) {
            due("wire", x.lay(i % 3, (i + 1) % 3), i);
            due("cut", x.cut(i) >= 0, true);
        }
        due("sixteen", x.count(1), 16);
        due("cut ones, too", x.lay(0, 1), -1);
        due("status(2)", x.status(2), 1);
        due("none is live", x.count(8), 0);
        x.undo();
        due("the sixteenth is live", x.count(8), 1 << 15);
        x.undo();
        due("fifteen", x.count(1), 15);
        due("the sixteenth again", x.lay(1, 2), 15);
        due("it is number 15", x.wire(15, 4), 1);
        due("wire(16, 0)", x.wire(16, 0), -1);
    }

    private static void cutGivesCopper() {
        int[] apart = {0, 1, 2, 3, 4, 19, 20};
        int[] half = {0, 0, 1, 1, 2, 9, 10};
        for (int i = 0; i < apart.length; i++) {
            CopperTies x = Check.belt("sc7;h;hx" + apart[i] + ";ws9");
            due("half of " + apart[i], x.cut(0), 7 + half[i]);
            due("copper", x.count(6), 7 + half[i]);
            due("it is cut", x.cut(0), -1);
            due("no more copper", x.count(6), 7 + half[i]);
            due("status(3)", x.status(3), 1);
            due("salt stays", x.wire(0, 2), 9);
        }
        int[] copper = {88, 89, 90, 99};
        int[] then = {98, 99, 99, 99};
        for (int i = 0; i < copper.length; i++) {
            CopperTies x = Check.belt("sc" + copper[i] + ";h;hx20;w");
            due("10 more than " + copper[i], x.cut(0), then[i]);
            x.undo();
            due("undone", x.count(6), copper[i]);
        }
        due("cut(1)", Check.belt("h;h;w").cut(1), -1);
    }

    private static void scrapeTakesSalt() {
        CopperTies x = Check.belt("sc2;h;h;h;h;ws9;wa1b2s1;wa2b3");
        due("9", x.scrape(0), 1);
        due("no salt", x.wire(0, 2), 0);
        due("live", x.wire(0, 4), 1);
        due("none is there: 3, not 4", x.scrape(2), -1);
        due("1", x.scrape(1), 0);
        due("no salt", x.wire(1, 2), 0);
        due("again", x.scrape(1), -1);
        due("status(3)", x.status(3), 2);
        due("status(4)", x.status(4), 0);
        CopperTies poor = Check.belt("sc0;h;h;ws1");
        due("no copper", poor.scrape(0), -1);
        due("salt stays", poor.wire(0, 2), 1);
        due("status(4)", poor.status(4), 1);
        poor.cut(0);
        due("cut", poor.scrape(0), -1);
        due("status(3)", poor.status(3), 1);
        due("scrape(1)", poor.scrape(1), -1);
        due("status(0)", poor.status(0), 1);
    }

    private static void groundUpTo99() {
        int[] bears = {1, 88, 89, 90, 98, 99};
        int[] then = {11, 98, 99, 99, 99, 99};
        for (int i = 0; i < bears.length; i++) {
            CopperTies x = Check.belt("sc5;h;hl" + bears[i]);
            due("10 more than " + bears[i], x.ground(1), then[i]);
            due("bears", x.house(1, 2), then[i]);
            due("the other", x.house(0, 2), 20);
            due("5 less", x.count(6), 0);
            x.undo();
            due("undone", x.house(1, 2), bears[i]);
            due("undone", x.count(6), 5);
        }
        CopperTies poor = Check.belt("sc4;h;h");
        due("for 4", poor.ground(0), -1);
        due("4 still", poor.count(6), 4);
        due("bears as before", poor.house(0, 2), 20);
        due("ground(2)", poor.ground(2), -1);
        due("status(0)", poor.status(0), 1);
        due("status(4)", poor.status(4), 1);
    }

    private static void summersSaltAndPay() {
        CopperTies x = Check.belt("sc93;h;h;h;h;ws7;wa1b2s8;wa2b3s9;wa0b3s3");
        x.cut(3);
        due("one", x.summers(1), 1);
        int[] once = {8, 9, 9, 3};
        for (int w = 0; w < 4; w++) {
            due("salt of " + w, x.wire(w, 2), once[w]);
        }
        due("96", x.count(6), 96);
        x.summers(1);
        int[] twice = {9, 9, 9, 3};
        for (int w = 0; w < 4; w++) {
            due("salt of " + w, x.wire(w, 2), twice[w]);
        }
        due("99", x.count(6), 99);
        due("99 at most", x.summers(1), 3);
        due("99 still", x.count(6), 99);
        CopperTies y = Check.belt("sc97;h;h");
        y.summers(1);
        due("97 and 3", y.count(6), 99);
        CopperTies z = Check.belt("sc95;h;h");
        z.summers(1);
        due("95 and 3", z.count(6), 98);
    }

    private static CopperTies atSummer(int summer) {
        CopperTies x = Check.belt("h;h");
        for (int left = summer; left > 0; left -= 60) {
            x.summers(Math.min(60, left));
        }
        return x;
    }

    private static void summersUpTo999() {
        CopperTies x = Check.belt("h;h");
        due("0 at first", x.count(5), 0);
        due("none", x.summers(0), -1);
        due("61", x.summers(61), -1);
        due("status(1)", x.status(1), 2);
        due("none went by", x.count(5), 0);
        due("1", x.summers(1), 1);
        due("60", x.summers(60), 61);
        due("939 and 60", atSummer(939).summers(60), 999);
        due("940 and 60", atSummer(940).summers(60), -1);
        due("940 and 59", atSummer(940).summers(59), 999);
        due("998 and 1", atSummer(998).summers(1), 999);
        due("998 and 2", atSummer(998).summers(2), -1);
        CopperTies last = atSummer(999);
        due("999 and 1", last.summers(1), -1);
        due("status(1)", last.status(1), 1);
        due("999 still", last.count(5), 999);
        due("undone", last.undo(), 39);
        due("998", last.count(5), 998);
        due("and again", last.summers(1), 999);
        // other acts go on
        due("a stroke", last.strike(0, 21), 1);
        CopperTies bare = new CopperTies();
        due("no belt", bare.summers(1), -1);
        due("status(0)", bare.status(0), 1);
    }

    private static void setWithin() {
        CopperTies x = new CopperTies();
        int[] first = {5, 0};
        for (int what = 0; what < 2; what++) {
            due("at first", x.count(9 + what), first[what]);
            due("it is so", x.set(what, first[what]), false);
            due("-1", x.set(what, -1), false);
            due("10", x.set(what, 10), false);
            due("as before", x.count(9 + what), first[what]);
            for (int v = 9; v >= 0; v--) {
                due("set(" + what + ", " + v + ")", x.set(what, v), true);
                due("it is", x.count(9 + what), v);
                due("it is so", x.set(what, v), false);
            }
        }
        due("set(2, 3)", x.set(2, 3), false);
        due("set(-1, 3)", x.set(-1, 3), false);
        due("no status", x.status(0) + x.status(1) + x.status(2) + x.status(3) + x.status(4), 0);
    }

    private static void statusOfEach() {
        CopperTies x = Check.belt("sc0;hk2;hk2;h;h;wa2b3s2");
        int[] want = new int[5];
        x.strike(4, 1);
        x.lay(0, 0);
        x.cut(1);
        x.scrape(1);
        x.ground(4);
        want[0] = 5;
        x.strike(0, 0);
        x.strike(0, 1000);
        x.summers(0);
        x.summers(61);
        want[1] = 4;
        x.lay(2, 3);
        x.lay(0, 1);
        want[2] = 2;
        x.lay(0, 2);
        x.scrape(0);
        x.ground(0);
        want[4] = 3;
        x.cut(0);
        x.cut(0);
        x.scrape(0);
        want[3] = 2;
        statusIs(x, want);
        // not by what is no act
        x.undo();
        x.undo();
        x.back();
        x.decades(0, 1);
        x.set(9, 9);
        x.law(9);
        x.text(9);
        x.end(-1);
        x.wire(9, 9);
        x.log(9, 9);
        x.burning(9, 9);
        x.scorched(9, 9, 9, true);
        x.test(9, true);
        x.game(9, 9, 9, 9, 9, 9);
        statusIs(x, want);
        // not undone, not of an image
        x.image();
        x.cut(7);
        want[0]++;
        x.summers(1);
        x.undo();
        x.back();
        statusIs(x, want);
        due("status(-1)", x.status(-1), -1);
        due("status(5)", x.status(5), -1);
    }

    private static void statusIs(CopperTies x, int[] want) {
        for (int i = 0; i < 5; i++) {
            due("status(" + i + ")", x.status(i), want[i]);
        }
    }

    private static void undoneOneByOne() {
        CopperTies x = Check.belt("sc30;hl9;hl9;hx6;ws4");
        due("none yet", x.undo(), -1);
        x.strike(0, 60);
        x.lay(1, 2);
        x.scrape(0);
        x.cut(1);
        x.ground(0);
        x.summers(2);
        due("seven", x.count(14), 7);
        due("copper", x.count(6), 30 - 6 - 1 + 3 - 5 + 6);
        due("six", x.undo(), 6);
        due("one summer", x.count(5), 1);
        due("five", x.undo(), 5);
        due("no summer", x.count(5), 0);
        due("no salt", x.wire(0, 2), 0);
        due("copper", x.count(6), 21);
        due("four", x.undo(), 4);
        due("copper", x.count(6), 26);
        due("bears", x.house(0, 2), 8);
        due("three", x.undo(), 3);
        due("copper", x.count(6), 23);
        due("not cut", x.wire(1, 3), 0);
        due("two", x.undo(), 2);
        due("salt again", x.wire(0, 2), 4);
        due("one", x.undo(), 1);
        due("copper", x.count(6), 30);
        due("one wire", x.count(1), 1);
        due("of house 1", x.house(1, 5), 1);
        due("none", x.undo(), 0);
        due("bears 9", x.house(0, 2), 9);
        due("burnt none", x.house(0, 4), 0);
        due("no log", x.count(13), 0);
        due("none left", x.undo(), -1);
    }

    private static void undoneWhatIsNoAct() {
        CopperTies x = Check.belt("hl5;h;w");
        Check.tape(x, "y:1");
        x.strike(0, 50);
        x.text(1);
        x.law(0);
        x.set(0, 1);
        x.set(1, 1);
        x.scorched(0, 1, 1, false);
        x.test(0, true);
        Check.tape(x, "abc");
        x.strike(0, 0);
        due("one act alone", x.count(14), 1);
        due("undone", x.undo(), 0);
        int[] want = {2, 1, 1, 3, 0, 0, 20, 0, 1, 1, 1, 1, 1, 0, 0};
        for (int i = 0; i < want.length; i++) {
            due("count(" + i + ")", x.count(i), want[i]);
        }
        due("status stays", x.status(1), 1);
        due("tests stay", x.stroke(), 727272);
        // a refused act is none
        x.cut(9);
        x.lay(0, 0);
        x.summers(0);
        due("none", x.count(14), 0);
        due("none", x.undo(), -1);
    }

    private static void fortyActs() {
        CopperTies x = Check.belt("hl99;h");
        for (int i = 1; i <= 39; i++) {
            x.strike(0, i);
        }
        due("39", x.count(14), 39);
        x.summers(1);
        due("40", x.count(14), 40);
        x.strike(0, 41);
        due("40 at most", x.count(14), 40);
        for (int left = 39; left >= 0; left--) {
            due("undo", x.undo(), left);
        }
        due("the first one stays", x.undo(), -1);
        due("it is in the log", x.count(13), 1);
        due("it is the first", x.log(0, 1), 1);
        due("no summer", x.count(5), 0);
        // anew behind that
        x.strike(1, 7);
        due("one", x.count(14), 1);
        due("undone", x.undo(), 0);
        due("none", x.undo(), -1);
        // sixty summers at once are sixty acts
        CopperTies y = Check.belt("sc0;h;h;w");
        y.summers(60);
        due("forty of sixty", y.count(14), 40);
        for (int i = 0; i < 40; i++) {
            y.undo();
        }
        due("summer 20", y.count(5), 20);
        due("salt 9", y.wire(0, 2), 9);
        due("copper 60", y.count(6), 60);
        due("none", y.undo(), -1);
    }

    private static void sixtyInTheLog() {
        CopperTies x = Check.belt("hl99;h");
        due("none", x.log(0, 0), -1);
        for (int i = 1; i <= 60; i++) {
            x.strike(0, i);
        }
        due("60", x.count(13), 60);
        due("the first", x.log(59, 1), 1);
        due("log(60, 1)", x.log(60, 1), -1);
        x.strike(1, 61);
        due("60 at most", x.count(13), 60);
        due("the latest", x.log(0, 1), 61);
        due("its house", x.log(0, 0), 1);
        due("it burned", x.log(0, 2), 2);
        due("the one ahead of it", x.log(1, 1), 60);
        due("its house", x.log(1, 0), 0);
        due("none burned", x.log(1, 2), 0);
        due("the first is gone", x.log(59, 1), 2);
        due("log(60, 1)", x.log(60, 1), -1);
        due("log(-1, 1)", x.log(-1, 1), -1);
        due("log(0, 3)", x.log(0, 3), -1);
        due("log(0, -1)", x.log(0, -1), -1);
    }

    private static void logUndone() {
        CopperTies x = Check.belt("hl99;h");
        for (int i = 1; i <= 61; i++) {
            x.strike(0, i);
        }
        due("undone", x.undo(), 39);
        due("60", x.count(13), 60);
        due("the latest", x.log(0, 1), 60);
        due("the first is there again", x.log(59, 1), 1);
        due("undone", x.undo(), 38);
        due("59", x.count(13), 59);
        due("the first", x.log(58, 1), 1);
        due("log(59, 1)", x.log(59, 1), -1);
        x.strike(1, 99);
        due("60", x.count(13), 60);
        due("the latest", x.log(0, 1), 99);
        due("the one ahead of it", x.log(1, 1), 59);
        // other acts leave the log alone, done and undone
        x.summers(1);
        due("60", x.count(13), 60);
        x.undo();
        due("60", x.count(13), 60);
        due("the latest", x.log(0, 1), 99);
        // a long way: 140 strokes, 40 undone, the sixty ahead of them
        CopperTies y = Check.belt("hl99;h");
        for (int i = 1; i <= 140; i++) {
            y.strike(0, i);
        }
        for (int i = 0; i < 40; i++) {
            y.undo();
        }
        for (int i = 0; i < 60; i++) {
            due("log(" + i + ", 1)", y.log(i, 1), 100 - i);
        }
        due("log(60, 1)", y.log(60, 1), -1);
    }

    // ---- part 4

    /** Draws as the document tells them, by whole numbers that do not go round by themselves. */
    private static final class Draws {
        private static final BigInteger ROUND = BigInteger.ONE.shiftLeft(64);
        private static final BigInteger TIMES = new BigInteger("6364136223846793005");
        private static final BigInteger MORE = new BigInteger("1442695040888963407");
        private BigInteger x;

        Draws(long seed) {
            x = BigInteger.valueOf(seed).mod(ROUND);
        }

        int of(int m) {
            x = x.multiply(TIMES).add(MORE).mod(ROUND);
            return x.shiftRight(33).mod(BigInteger.valueOf(m)).intValue();
        }
    }

    private static final long[] SEEDS = {0, 1, -1, Long.MIN_VALUE, Long.MAX_VALUE, Long.MIN_VALUE + 1,
        1234567890123456789L, -987654321L, 1L << 33, 0xFFFFFFFFL, 77, 4242};

    private static void decadesDraw() {
        for (long seed : SEEDS) {
            decadesOf(seed, 5, 0, "ht1l99;ht9l99", 0, 20);
            decadesOf(seed, 9, 9, "ht9l99;ht1l99;ht2l99", 0, 20);
            decadesOf(seed, 9, 9, "ht2l99;ht7l99;ht1l99;h;w;wb2;wa1b2;wb3;wa1b3", 5, 14);
            decadesOf(seed, 3, 6, "ht2l99;ht7l99;ht1l99;w", 1, 20);
            decadesOf(seed, 0, 4, "h;h;h;h;w;wb2;wa1b2;wb3;wa1b3;wa2b3", 6, 20);
        }
    }

    private static void decadesOf(long seed, int storms, int kites, String text, int wires, int n) {
        CopperTies x = Check.belt("sc0;" + text);
        x.set(0, storms);
        x.set(1, kites);
        int all = 0;
        for (int h = 0; h < x.count(0); h++) {
            all += x.house(h, 1);
        }
        String by = "decades(" + n + ", " + seed + ") of " + text + ": ";
        due(by + "the summer", x.decades(n, seed), n);
        Draws draws = new Draws(seed);
        int strokes = 0;
        int cut = 0;
        int[] salt = new int[wires];
        int[] houses = new int[n];
        int[] v = new int[n];
        for (int i = 0; i < n; i++) {
            if (draws.of(10) < storms) {
                houses[strokes] = houseAt(x, draws.of(all));
                v[strokes] = draws.of(99) + 1;
                strokes++;
            }
            if (draws.of(10) < kites && wires > 0) {
                cut |= 1 << draws.of(wires);
            }
            for (int w = 0; w < wires; w++) {
                salt[w] = (cut >> w & 1) == 1 ? salt[w] : Math.min(9, salt[w] + 1);
            }
        }
        due(by + "strokes", x.count(13), strokes);
        for (int i = 0; i < strokes; i++) {
            due(by + "house of stroke " + i, x.log(strokes - 1 - i, 0), houses[i]);
            due(by + "v of stroke " + i, x.log(strokes - 1 - i, 1), v[i]);
        }
        for (int w = 0; w < wires; w++) {
            due(by + "wire " + w + " cut", x.wire(w, 3), cut >> w & 1);
            due(by + "wire " + w + " salt", x.wire(w, 2), salt[w]);
        }
        due(by + "acts", x.count(14), n);
        due(by + "no copper but of summers", x.count(6), 3 * n);
    }

    private static int houseAt(CopperTies x, int point) {
        int house = 0;
        int upTo = x.house(0, 1);
        while (point >= upTo) {
            house++;
            upTo += x.house(house, 1);
        }
        return house;
    }

    private static void decadesAtTheirEdges() {
        CopperTies x = Check.belt("h;h");
        due("0", x.decades(0, 1), -1);
        due("61", x.decades(61, 1), -1);
        due("-1", x.decades(-1, 1), -1);
        due("none went by", x.count(5), 0);
        due("1", x.decades(1, 1), 1);
        due("60", x.decades(60, 1), 61);
        due("939 and 60", atSummer(939).decades(60, 5), 999);
        due("940 and 60", atSummer(940).decades(60, 5), -1);
        due("940 and 59", atSummer(940).decades(59, 5), 999);
        due("998 and 1", atSummer(998).decades(1, 5), 999);
        due("998 and 2", atSummer(998).decades(2, 5), -1);
        CopperTies last = atSummer(999);
        due("999 and 1", last.decades(1, 5), -1);
        due("no status", last.status(1), 0);
        due("no stroke", last.count(13), 0);
        CopperTies bare = new CopperTies();
        due("no belt", bare.decades(1, 1), -1);
        due("no status", bare.status(0), 0);
        // STORMS 0: not even by a draw of 0
        CopperTies still = Check.belt("h;h;w");
        still.set(0, 0);
        still.decades(60, 9);
        due("no storms", still.count(13), 0);
        due("no kites", still.count(8) | still.wire(0, 3), 0);
        // the copper of summers, 99 at most
        due("99 at most", still.count(6), 99);
        due("salt 9", still.wire(0, 2), 9);
        // the same seed, the same draws, whatever was drawn before
        CopperTies one = Check.belt("hl99;hl99");
        one.decades(20, 3);
        one.decades(20, 3);
        int strokes = one.count(13) / 2;
        for (int i = 0; i < strokes; i++) {
            due("again", one.log(i, 1), one.log(i + strokes, 1));
        }
    }

    private static void decadesCut() {
        // one wire alone: whatever is drawn, it is cut once, and no copper for it
        CopperTies x = Check.belt("sc10;h;hx20;ws4");
        x.set(0, 0);
        x.set(1, 9);
        Draws draws = new Draws(6);
        int ahead = 0;
        for (draws.of(10); draws.of(10) >= 9; draws.of(10)) {
            ahead++;
        }
        x.decades(ahead + 1, 6);
        due("cut", x.wire(0, 3), 1);
        due("salted by the summers ahead alone", x.wire(0, 2), 4 + ahead);
        due("no copper for it", x.count(6), 10 + 3 * (ahead + 1));
        x.decades(5, 6);
        due("cut still", x.wire(0, 3), 1);
        due("no salt more", x.wire(0, 2), 4 + ahead);
        due("no status", x.status(3), 0);
    }

    private static void decadesUndone() {
        // each SUMMER with what is ahead of it is one ACT: undone, it is as n - 1 would have left it
        for (int n = 6; n >= 1; n--) {
            CopperTies longer = busy();
            longer.decades(n, 11);
            due("acts", longer.count(14), n);
            due("undone", longer.undo(), n - 1);
            CopperTies shorter = busy();
            if (n > 1) {
                shorter.decades(n - 1, 11);
            }
            for (int what : new int[] {1, 5, 6, 8, 13, 14}) {
                due("count(" + what + ") of " + n, longer.count(what), shorter.count(what));
            }
            for (int h = 0; h < 3; h++) {
                due("bears of " + n, longer.house(h, 2), shorter.house(h, 2));
                due("burnt of " + n, longer.house(h, 4), shorter.house(h, 4));
            }
            for (int w = 0; w < 3; w++) {
                due("salt of " + n, longer.wire(w, 2), shorter.wire(w, 2));
                due("cut of " + n, longer.wire(w, 3), shorter.wire(w, 3));
            }
            due("log of " + n, longer.log(0, 1), shorter.log(0, 1));
        }
        CopperTies x = busy();
        x.decades(60, 12);
        due("forty of sixty", x.count(14), 40);
        for (int i = 0; i < 40; i++) {
            x.undo();
        }
        due("summer 20", x.count(5), 20);
        due("none", x.undo(), -1);
    }

    private static CopperTies busy() {
        CopperTies x = Check.belt("sc9;hl9;hl9;hl9x4;w;wa1b2;wb2");
        x.set(0, 9);
        x.set(1, 5);
        return x;
    }

    private static void decadesInTheLog() {
        CopperTies x = Check.belt("hl99;hl99");
        x.set(0, 9);
        x.decades(60, 1);
        x.decades(60, 2);
        due("60 at most", x.count(13), 60);
        due("log(60, 0)", x.log(60, 0), -1);
        due("log(59, 1) is there", x.log(59, 1) >= 1, true);
    }

    private static void imagesKeep() {
        CopperTies x = Check.belt("sc30;hl9;hl9;hx6;ws4;wa1b2", "y:p/3");
        x.strike(0, 90);
        x.cut(1);
        x.summers(2);
        due("the summer", x.image(), 2);
        due("an image is no act", x.count(14), 4);
        int copper = x.count(6);
        int bears = x.house(0, 2);
        x.lay(0, 2);
        x.scrape(0);
        x.ground(0);
        x.strike(2, 99);
        x.strike(1, 98);
        x.summers(5);
        x.set(0, 8);
        x.set(1, 7);
        x.law(-1);
        x.scorched(0, 5, 1, false);
        x.test(0, true);
        x.cut(99);
        Check.tape(x, "abc");
        due("back", x.back(), 2);
        int[] want = {3, 2, 1, 3, -1, 2, copper, 0, 1, 8, 7, 1, 1, 1, 0};
        for (int i = 0; i < want.length; i++) {
            due("count(" + i + ")", x.count(i), want[i]);
        }
        due("bears", x.house(0, 2), bears);
        due("burnt", x.house(0, 4), 1);
        // of 90 0 keeps 30, 1 keeps 18 of 56, 38 come to 2
        due("burnt once, not by the later one", x.house(2, 4), 1);
        due("salt", x.wire(0, 2), 6);
        due("not cut", x.wire(0, 3), 0);
        due("cut", x.wire(1, 3), 1);
        due("the wire laid behind it is gone", x.wire(2, 0), -1);
        due("the log", x.log(0, 1), 90);
        due("no more", x.log(1, 1), -1);
        due("status stays", x.status(0), 1);
        due("no act can be undone", x.undo(), -1);
        // it stays an image
        x.summers(1);
        due("back again", x.back(), 2);
        due("and again", x.back(), 2);
        // instead of the one ahead
        x.summers(4);
        due("another image", x.image(), 6);
        x.summers(3);
        due("back to that", x.back(), 6);
        // an image of a later summer than now
        CopperTies y = Check.belt("h;h");
        y.summers(5);
        y.image();
        for (int i = 0; i < 5; i++) {
            y.undo();
        }
        due("undone", y.count(5), 0);
        due("back", y.back(), 5);
        due("no act", y.undo(), -1);
        // at the last summer
        CopperTies last = atSummer(999);
        due("999", last.image(), 999);
        due("999", last.back(), 999);
        due("none goes by", last.summers(1), -1);
    }

    /** WIRES are so again: those of the image, between the houses that they had. */
    private static void imagesOfWires() {
        CopperTies x = Check.belt("h;h;h;h;h;h;h;h");
        due("lay", x.lay(7, 6), 0);
        x.image();
        x.undo();
        due("another one of that number", x.lay(1, 2), 0);
        kept(x, 1, 30, 0, 15, 15, 0, 0, 0, 0, 0);
        x.back();
        due("its houses", x.wire(0, 0), 7);
        due("its houses", x.wire(0, 1), 6);
        kept(x, 1, 30, 0, 30, 0, 0, 0, 0, 0, 0);
        kept(x, 7, 30, 0, 0, 0, 0, 0, 0, 15, 15);
        due("of house 1", x.house(1, 5), 0);
        due("of house 6", x.house(6, 5), 1);
        due("two more", x.lay(0, 5), 1);
        due("two more", x.lay(5, 7), 2);
        x.back();
        due("one wire", x.count(1), 1);
        due("of house 5", x.house(5, 5), 0);
    }

    private static void imagesOfThisBelt() {
        CopperTies x = new CopperTies();
        due("image without a belt", x.image(), -1);
        due("back without a belt", x.back(), -1);
        Check.tape(x, "h;h;w");
        x.text(0);
        due("back without an image", x.back(), -1);
        due("image", x.image(), 0);
        due("back", x.back(), 0);
        Check.tape(x, "h;h;");
        due("a faulty belt", x.text(0), -1);
        due("the image stays", x.back(), 0);
        x.end(0);
        Check.tape(x, "y:p");
        due("a law", x.text(1), 0);
        due("the image stays", x.back(), 0);
        Check.tape(x, "h;h;w");
        due("another belt, though alike", x.text(0), 2);
        due("no image of this belt", x.back(), -1);
        due("one of this", x.image(), 0);
        due("back", x.back(), 0);
    }

    private static void imagesOfALongLog() {
        CopperTies x = Check.belt("hl99;h");
        due("an image of no log", x.image(), 0);
        for (int i = 1; i <= 61; i++) {
            x.strike(0, i);
        }
        x.back();
        due("no log", x.count(13), 0);
        due("no log", x.log(0, 0), -1);
        for (int i = 1; i <= 61; i++) {
            x.strike(0, i);
        }
        x.image();
        for (int i = 0; i < 5; i++) {
            x.strike(1, 90);
        }
        x.back();
        due("60", x.count(13), 60);
        for (int i = 0; i < 60; i++) {
            due("of an image, log(" + i + ", 0)", x.log(i, 0), 0);
            due("of an image, log(" + i + ", 1)", x.log(i, 1), 61 - i);
            due("of an image, log(" + i + ", 2)", x.log(i, 2), 0);
        }
        due("log(60, 1)", x.log(60, 1), -1);
        x.strike(1, 88);
        due("60 still", x.count(13), 60);
        due("the latest", x.log(0, 1), 88);
        due("the first of sixty", x.log(59, 1), 3);
        x.undo();
        due("undone", x.log(0, 1), 61);
        due("the first of sixty again", x.log(59, 1), 2);
        // each has its house, its v, and who burned
        CopperTies y = Check.belt("hl3;hl5;hl99");
        y.strike(1, 6);
        y.strike(2, 7);
        y.strike(0, 8);
        y.image();
        y.strike(2, 9);
        y.back();
        int[][] want = {{0, 8, 1}, {2, 7, 0}, {1, 6, 2}};
        for (int i = 0; i < 3; i++) {
            for (int what = 0; what < 3; what++) {
                due("log(" + i + ", " + what + ")", y.log(i, what), want[i][what]);
            }
        }
    }
}
