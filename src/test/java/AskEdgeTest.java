/** The edges of questions: promises 20 to 43 and 46, and part 3 of the terms. */
public final class AskEdgeTest {
    private static final int NONE = -1;
    private static final int HIDDEN = -1000000;

    private AskEdgeTest() {
    }

    public static void main(String[] args) {
        strokesAlone();
        strokesWithoutALaw();
        strokesLeaveOver();
        strokesThroughSalt();
        strokesInOrder();
        strokesOfSixteenWires();
        couplesOfTwoAndEight();
        couplesOfChapels();
        couplesAlike();
        marryForAllCopper();
        marryWhom();
        partingOfNone();
        partingOfTwoAtMost();
        allEightBurn();
        standsFirst();
        earthUpTo99();
        earthJustSo();
        earthByWhatItBears();
        singlesAndTowns();
        ringsAndBridges();
        gamesAtTheirEdges();
        gamesByTheLastWire();
        restsOfAllSorts();
        leavesForLess();
        scorchedTen();
        whoOfFew();
        whoBySuchOnes();
        whoOfMany();
        lookBy50();
        lookOfSeveral();
        oddsCut();
        premiumsRoundedUp();
        testsTwelve();
        strokeOrSpark();
        farApart();
        mostOfSeveral();
        countsOfOthers();
        Check.finish();
    }

    private static void due(String call, long got, long want) {
        Check.due(call, got, want);
    }

    private static void due(String call, boolean got, boolean want) {
        Check.due(call, got, want);
    }

    private static void kept(CopperTies x, String of, int struck, int v, int... want) {
        for (int h = 0; h < want.length; h++) {
            due(of + ": keeps(" + struck + ", " + v + ", " + h + ")", x.keeps(struck, v, h), want[h]);
        }
    }

    // ---- strokes

    private static void strokesAlone() {
        CopperTies x = Check.belt("hl5;hl99;hl1;hl1;hl1;hl1;hl1;hl1");
        kept(x, "alone", 0, 1, 1, 0, 0, 0, 0, 0, 0, 0);
        kept(x, "alone", 7, 999, 0, 0, 0, 0, 0, 0, 0, 999);
        due("keeps by 0", x.keeps(0, 0, 0), NONE);
        due("keeps by 1000", x.keeps(0, 1000, 0), NONE);
        due("keeps at 8", x.keeps(8, 1, 0), NONE);
        due("keeps of 8", x.keeps(0, 1, 8), NONE);
        due("keeps at -1", x.keeps(-1, 1, 0), NONE);
        due("keeps of -1", x.keeps(0, 1, -1), NONE);
        due("burning by 1", x.burning(0, 1), 0);
        due("burning by as much as it bears", x.burning(0, 5), 0);
        due("burning by one more", x.burning(0, 6), 1);
        due("burning by 999", x.burning(1, 999), 2);
        due("burning, the eighth", x.burning(7, 2), 128);
        due("burning by 0", x.burning(0, 0), NONE);
        due("burning by 1000", x.burning(0, 1000), NONE);
        due("burning at 8", x.burning(8, 1), NONE);
        due("lost by 1", x.lost(0, 1), 0);
        due("lost by 999", x.lost(0, 999), 0);
        due("lost by 0", x.lost(0, 0), NONE);
        due("lost by 1000", x.lost(0, 1000), NONE);
        due("lost at 8", x.lost(8, 1), NONE);
    }

    private static void strokesWithoutALaw() {
        // 0 has two wires: a third of p, cut, and DRY more, never more than p
        CopperTies x = Check.belt("sd9;h;h;h;w;wb2");
        kept(x, "3 and 9 of 10", 0, 10, 10, 0, 0);
        kept(x, "4 and 9 of 13, held within", 0, 13, 13, 0, 0);
        kept(x, "4 and 9 of 14, one left over", 0, 14, 14, 0, 0);
        kept(x, "5 and 9 of 15, one left over", 0, 15, 15, 0, 0);
        kept(x, "5 and 9 of 16", 0, 16, 14, 1, 1);
        kept(x, "5 and 9 of 17, one left over", 0, 17, 15, 1, 1);
        kept(x, "6 and 9 of 18, one left over", 0, 18, 16, 1, 1);
        CopperTies dry = Check.belt("sd0;h;h;w");
        kept(dry, "none of 1", 0, 1, 0, 1);
        kept(dry, "1 of 2", 0, 2, 1, 1);
        kept(dry, "499 of 999", 0, 999, 499, 500);
    }

    private static void strokesLeaveOver() {
        CopperTies x = Check.belt("h;h;h;h;w;wb2;wb3", "y:0");
        kept(x, "1 by 3", 0, 1, 1, 0, 0, 0);
        kept(x, "2 by 3", 0, 2, 2, 0, 0, 0);
        kept(x, "3 by 3", 0, 3, 0, 1, 1, 1);
        kept(x, "5 by 3", 0, 5, 2, 1, 1, 1);
        // 1 has no wire but that by which it came: it keeps all, whatever the law says
        kept(x, "struck at the end", 1, 7, 1, 0, 3, 3);
        CopperTies all = Check.belt("h;h;w", "y:p");
        kept(all, "all stays", 0, 999, 999, 0);
        // a wire that is not live is none
        CopperTies dead = Check.belt("h;h;h;ws9;wb2", "y:0");
        kept(dead, "one of two is live", 0, 7, 0, 0, 7);
        dead.cut(1);
        kept(dead, "none is", 0, 7, 7, 0, 0);
    }

    private static void strokesThroughSalt() {
        CopperTies x = Check.belt("h;h;ws8", "y:0");
        int[] v = {1, 7, 8, 9, 10, 999};
        int[] lost = {1, 7, 8, 8, 8, 8};
        for (int i = 0; i < v.length; i++) {
            due("lost(0, " + v[i] + ")", x.lost(0, v[i]), lost[i]);
            kept(x, "8 salt", 0, v[i], 0, v[i] - lost[i]);
        }
        CopperTies full = Check.belt("h;h;ws9", "y:0");
        due("9 is not live: nothing is lost", full.lost(0, 50), 0);
        kept(full, "9 salt", 0, 50, 50, 0);
        CopperTies chain = Check.belt("h;h;h;ws3;wa1b2s2", "y:0");
        due("3 and 2 of 10", chain.lost(0, 10), 5);
        kept(chain, "chain", 0, 10, 0, 0, 5);
        due("3 and 1 of 4", chain.lost(0, 4), 4);
        kept(chain, "chain", 0, 4, 0, 0, 0);
        due("3 of 3: nothing comes to 1", chain.lost(0, 3), 3);
        due("turned round: 2 and 3", chain.lost(2, 6), 5);
        kept(chain, "turned round", 2, 6, 1, 0, 0);
        // of a part that is lost whole nothing comes: to 1 that by 2 is the first one
        CopperTies first = Check.belt("h;h;h;h;ws8;wb2;wa2b1;wa1b3", "y:0");
        kept(first, "8 are lost, 8 come by 2, 4 are lost", 0, 16, 0, 0, 0, 4);
        due("8 and 4", first.lost(0, 16), 12);
        // one more comes straight: it is the first one, too little for two wires; 9 come by 2 behind it
        kept(first, "9 each: 1 comes straight", 0, 18, 0, 10, 0, 0);
        // 2 come straight and go on to 2 and 3; 10 come by 2 behind them and stay
        kept(first, "10 each: 2 come straight", 0, 20, 0, 10, 1, 1);
        due("8 alone", first.lost(0, 20), 8);
        // a part of nothing loses nothing
        CopperTies two = Check.belt("h;h;h;ws5;wb2s5", "y:0");
        due("1 by 2 goes nowhere", two.lost(0, 1), 0);
        due("1 each of 3", two.lost(0, 3), 2);
        due("5 each of 11", two.lost(0, 11), 10);
        due("6 each of 12", two.lost(0, 12), 10);
        kept(two, "6 each", 0, 12, 0, 1, 1);
    }

    private static void strokesInOrder() {
        // a square; by the numbers of wires 2 hears ahead of 1, so 3 sends on what came by 2
        CopperTies x = Check.belt("h;h;h;h;wb2;wb1;wa1b3;wa2b3", "y:0");
        kept(x, "2 ahead of 1", 0, 40, 0, 20, 0, 20);
        CopperTies y = Check.belt("h;h;h;h;wb1;wb2;wa1b3;wa2b3", "y:0");
        kept(y, "1 ahead of 2", 0, 40, 0, 0, 20, 20);
        // one behind the other as they went out: 3 is reached by the short way first, though the
        // long one has the lower wires
        CopperTies z = Check.belt("h;h;h;h;wb1;wa1b2;wa2b3;wb3", "y:0");
        // 0 sends 20 to 1 and 20 to 3; 1 sends to 2, 3 sends to 2; 2 sends 1's on to 3
        kept(z, "round", 0, 40, 0, 0, 20, 20);
        // the struck house hears its own stroke again and keeps it whole
        CopperTies tail = Check.belt("h;h;h;wb1;wa1b2;wa2b0", "y:n=2?p/2;y:0");
        // 0 keeps 20, 10 each; 1 and 2 send them on to one another and keep what comes
        kept(tail, "tail", 0, 40, 20, 10, 10);
        CopperTies back = Check.belt("h;h;h;h;w;wa1b2;wa2b3;wa3b1", "y:0");
        // all of 30 to 1, 15 each round to 2 and 3, each sends it to the other, which keeps it
        kept(back, "round behind 1", 0, 30, 0, 0, 15, 15);
        // struck at 2: 1 hears 15, sends 7 on each way, one left over; 3 sends 15 to 1
        kept(back, "struck in the ring", 2, 30, 7, 16, 0, 7);
    }

    private static final String RING_OF_EIGHT = "w;wa1b2;wa2b3;wa3b4;wa4b5;wa5b6;wa6b7;wa7b0";

    /** Eight houses that bear so much, each with its neighbours and theirs: sixteen wires. */
    private static CopperTies crowd(int bears) {
        CopperTies x = Check.belt("sc99;" + ("hl" + bears + ";").repeat(8) + RING_OF_EIGHT);
        for (int h = 0; h < 8; h++) {
            due("lay", x.lay(h, (h + 2) % 8), 8 + h);
        }
        return x;
    }

    private static void strokesOfSixteenWires() {
        // nothing is lost on the way but by salt, however many parts there are
        CopperTies x = crowd(20);
        for (int summer = 0; summer <= 9; summer++) {
            for (int struck = 0; struck < 8; struck++) {
                for (int v : new int[] {1, 4, 5, 99, 998, 999}) {
                    int all = x.lost(struck, v);
                    for (int h = 0; h < 8; h++) {
                        all += x.keeps(struck, v, h);
                    }
                    due("kept and lost of " + v + " at " + struck + " by salt " + summer, all, v);
                }
            }
            x.summers(1);
        }
        due("none is live", x.keeps(5, 999, 5), 999);
    }

    // ---- couples, marriages, partings

    private static void couplesOfTwoAndEight() {
        CopperTies x = Check.belt("hx0;hx20");
        due("20 apart", x.couples(0), 20);
        due("each other", x.couples(1), 10);
        due("what 2", x.couples(2), NONE);
        due("what -1", x.couples(-1), NONE);
        CopperTies seven = Check.belt("hx0;hx20;hx0;hx20;hx0;hx20;hx10");
        // three at 0 and three at 20: two pairs of 0, and one of the rest with 10 (an odd one alone)
        due("seven", seven.couples(0), 10);
        // 0 alone: 1 3, 2 4, 5 6: 0 3 4 1 2 6 5
        due("seven, the least row", seven.couples(1), 341265);
        CopperTies eight = Check.belt("hx0;hx20;hx0;hx20;hx0;hx20;hx0;hx20");
        due("eight", eight.couples(0), 0);
        due("eight, the least row", eight.couples(1), 23016745);
        due("three", Check.belt("hx3;hx9;hx14").couples(0), 5);
        due("three, 0 alone", Check.belt("hx3;hx9;hx14").couples(1), 21);
        due("without a belt", new CopperTies().couples(0), NONE);
    }

    private static void couplesOfChapels() {
        due("two chapels", Check.belt("hk2;hk2").couples(0), NONE);
        due("two chapels", Check.belt("hk2;hk2").couples(1), NONE);
        due("one chapel", Check.belt("hk2;h").couples(1), 10);
        due("three chapels: one alone, two left", Check.belt("hk2;hk2;hk2").couples(0), NONE);
        due("two of three", Check.belt("hk2;hk2;h").couples(1), 21);
        due("two of three, the nearer", Check.belt("hk2x1;hk2x5;h").couples(1), 210);
        String four = "hk2;hk2;hk2;hk2;h;h;h;h";
        due("four of eight", Check.belt(four).couples(1), 45670123);
        due("five of eight", Check.belt(four.replaceFirst(";h;", ";hk2;")).couples(0), NONE);
        String ofSeven = "hk2;hk2;hk2;hk2;h;h;h";
        due("four of seven", Check.belt(ofSeven).couples(1), 456123);
        due("five of seven", Check.belt(ofSeven.replaceFirst(";h;", ";hk2;")).couples(1), NONE);
        // banks and barns are wed as all others
        due("two banks", Check.belt("hk1;hk1").couples(1), 10);
        due("two barns", Check.belt("hk3;hk3").couples(1), 10);
    }

    private static void couplesAlike() {
        due("two", Check.belt("h;h").couples(1), 10);
        due("three", Check.belt("h;h;h").couples(1), 21);
        due("four", Check.belt("h;h;h;h").couples(1), 1032);
        due("eight", Check.belt("h;h;h;h;h;h;h;h").couples(1), 10325476);
        due("eight", Check.belt("h;h;h;h;h;h;h;h").couples(0), 0);
        // 01 and 23 as far as 02 and 13
        due("of several the least row", Check.belt("hx0;hx5;hx5;hx10").couples(1), 1032);
        // wires have no say, nor has copper
        due("wires", Check.belt("sc0;h;h;w").couples(1), 10);
    }

    private static void marryForAllCopper() {
        due("5 apart for 5", Check.belt("sc5;hl9;hx5").marry(0, 10, 0), 1);
        due("none burns then", Check.belt("sc5;hl9;hx5").marry(0, 10, 1), 0);
        due("5 apart for 4", Check.belt("sc4;hl9;hx5").marry(0, 10, 0), NONE);
        due("5 apart for 4", Check.belt("sc4;hl9;hx5").marry(0, 10, 1), NONE);
        due("in one place for 1", Check.belt("sc1;hl9;h").marry(0, 10, 0), 1);
        due("in one place for none", Check.belt("sc0;hl9;h").marry(0, 10, 0), NONE);
        due("there is one full of salt", Check.belt("h;h;ws9").marry(0, 10, 0), NONE);
        CopperTies cut = Check.belt("h;h;w");
        due("there is one", cut.marry(0, 10, 1), NONE);
        cut.cut(0);
        due("there was one", cut.marry(0, 10, 0), 1);
        due("two chapels", Check.belt("hk2;hk2").marry(0, 10, 0), NONE);
        due("v 1", cut.marry(0, 1, 0), 1);
        due("v 999", cut.marry(1, 999, 1), 2);
        due("v 0", cut.marry(0, 0, 0), NONE);
        due("v 1000", cut.marry(0, 1000, 0), NONE);
        due("house 2", cut.marry(2, 1, 0), NONE);
        due("what 2", cut.marry(0, 1, 2), NONE);
        due("what -1", cut.marry(0, 1, -1), NONE);
        // sixteen, cut ones, too
        CopperTies full = Check.belt("sc99;h;h");
        for (int i = 0; i < 15; i++) {
            full.lay(0, 1);
            full.cut(i);
        }
        due("a sixteenth", full.marry(0, 10, 0), 1);
        full.lay(0, 1);
        full.cut(15);
        due("a seventeenth", full.marry(0, 10, 0), NONE);
        due("a seventeenth", full.marry(0, 10, 1), NONE);
    }

    private static void marryWhom() {
        // for 1 alone 6 and 7 are near enough
        CopperTies near = Check.belt("sc1;hx0;hx3;hx6;hx9;hx12;hx15;hx18;hx19");
        due("6 and 7", near.marry(0, 1, 0), 67);
        due("of several the least", Check.belt("h;h;h").marry(2, 1, 0), 1);
        // one must be laid, though none burns as it is: of 99 1 gets 50
        CopperTies worse = Check.belt("hl99;hl1");
        due("none burns now", worse.burning(0, 99), 0);
        due("one burns then", worse.marry(0, 99, 1), 1);
        due("by the only one", worse.marry(0, 99, 0), 1);
        // with 3, which bears most, none burns: with 1 or 2 it is one at least
        CopperTies best = Check.belt("hl40;hl39;hl39;hl40");
        due("with 3 alone", best.marry(0, 80, 0), 3);
        due("none burns", best.marry(0, 80, 1), 0);
        due("one more: 41 go, 40 stay", best.marry(0, 81, 1), 1);
        due("the least of those that save 0", best.marry(0, 81, 0), 1);
        // each is thought of by itself: by 12 it is 0 alone that burns
        CopperTies apart = Check.belt("hl9;hl1;hl1");
        due("apart from 0", apart.marry(0, 20, 0), 12);
        due("0 burns", apart.marry(0, 20, 1), 1);
        // beside wires that there are, too: 3 and 4 would burn with 0
        CopperTies beside = Check.belt("hl9;hl1;hl1;hl1;hl1;wa3b4");
        due("apart from 0", beside.marry(0, 20, 0), 12);
        due("0 burns", beside.marry(0, 20, 1), 1);
        due("0 and two more with 3", wouldBurn("hl9;hl1;hl1;hl1;hl1;wa3b4", 0, 3, 20), 25);
        // the wire stands behind all others: by 02 its part goes out behind that to 1, which so keeps
        // nothing; were it ahead, 1 would keep 20; by 03 it keeps 10
        CopperTies order = Check.belt("h;hl9;h;h;w;wa1b3;wa2b3", "y:0");
        due("its part goes last", order.marry(0, 40, 0), 2);
        due("none burns", order.marry(0, 40, 1), 0);
    }

    /** Who burns by a stroke at the one, once a wire to the other is laid by hand. */
    private static int wouldBurn(String text, int one, int other, int v) {
        CopperTies x = Check.belt(text);
        x.lay(one, other);
        return x.burning(one, v);
    }

    private static void partingOfNone() {
        CopperTies x = Check.belt("hl5;h");
        due("no wires: the empty set", x.parting(0, 6, 0), 0);
        due("one burns", x.parting(0, 6, 1), 1);
        due("none burns", x.parting(0, 5, 1), 0);
        CopperTies fine = Check.belt("h;h;w");
        due("none burns as it is", fine.parting(0, 10, 0), 0);
        due("none", fine.parting(0, 10, 1), 0);
        // 999 burn all or one: cut
        due("one instead of two", fine.parting(0, 999, 0), 1);
        due("one", fine.parting(0, 999, 1), 1);
        due("v 0", fine.parting(0, 0, 0), NONE);
        due("v 1000", fine.parting(0, 1000, 0), NONE);
        due("house 2", fine.parting(2, 1, 0), NONE);
        due("house -1", fine.parting(-1, 1, 0), NONE);
        due("what 2", fine.parting(0, 1, 2), NONE);
        due("what -1", fine.parting(0, 1, -1), NONE);
        // what is cut is not cut again, what is full of salt helps nobody
        CopperTies cut = Check.belt("hl1;hl1;hl1;w;wb2;wa1b2s9");
        cut.cut(0);
        due("the one that is left", cut.parting(0, 99, 0), 2);
        due("one burns", cut.parting(0, 99, 1), 1);
    }

    private static void partingOfTwoAtMost() {
        // three that bear nothing: two can be saved; of the three ways the least bits
        CopperTies star = Check.belt("hl99;hl1;hl1;hl1;w;wb2;wb3");
        due("three burn", star.burning(0, 80), 14);
        due("two cuts at most", star.parting(0, 80, 1), 1);
        due("the least bits", star.parting(0, 80, 0), 3);
        // one cut (wire 2: 4) is fewer than two (wires 0 and 1: 3)
        CopperTies tail = Check.belt("hl99;hl1;hl99;hl99;hl99;wb2;wb3;wa4b1;wa2b4;wa3b4");
        due("1 burns", tail.burning(0, 99), 2);
        due("the least in number, then bits", tail.parting(0, 99, 0), 4);
        due("none burns", tail.parting(0, 99, 1), 0);
        // of two sets of one the lower bits
        CopperTies chain = Check.belt("hl99;hl99;hl1;w;wa1b2");
        due("of several the least bits", chain.parting(0, 40, 0), 1);
        due("none burns", chain.parting(0, 40, 1), 0);
    }

    private static void allEightBurn() {
        // half of it goes on from house to house: 8 come to the last one
        String line = "hl1;hl1;hl1;hl1;hl1;hl1;hl1;hl1;w;wa1b2;wa2b3;wa3b4;wa4b5;wa5b6;wa6b7";
        due("all", Check.belt(line).burning(0, 999), 255);
        due("whatever is laid", Check.belt(line).marry(0, 999, 1), 8);
        due("the least", Check.belt(line).marry(0, 999, 0), 2);
        CopperTies crowd = crowd(1);
        due("all", crowd.burning(3, 999), 255);
        due("whatever two are cut", crowd.parting(3, 999, 1), 8);
        due("none, then", crowd.parting(3, 999, 0), 0);
        due("none can be laid", crowd.marry(3, 999, 1), NONE);
    }

    // ---- what all can bear

    private static void standsFirst() {
        due("1 at least is borne", Check.belt("hl1;hl1").stands(0), 1);
        due("the lowest", Check.belt("hl1;hl1").stands(1), 0);
        due("the weaker one", Check.belt("hl2;hl1").stands(0), 1);
        due("the weaker one", Check.belt("hl2;hl1").stands(1), 1);
        due("99", Check.belt("hl99;hl99").stands(0), 99);
        due("99, the lowest", Check.belt("hl99;hl99").stands(1), 0);
        due("what 2", Check.belt("h;h").stands(2), NONE);
        due("what -1", Check.belt("h;h").stands(-1), NONE);
        // by 10 at 0 it burns, though by 11 it would not: by any stroke of 1 .. v
        CopperTies odd = Check.belt("hl5;hl99;w", "y:p=10?10;y:p/2");
        due("up to 9", odd.stands(0), 9);
        due("struck at 0", odd.stands(1), 0);
        due("by 11 at 0 none burns", odd.burning(0, 11), 0);
        // struck at 0 all goes to 1, struck at 1 to 0: WEAKEST is the one struck, not who burns
        CopperTies sent = Check.belt("hl9;hl5;w", "y:0");
        due("5", sent.stands(0), 5);
        due("struck at 0", sent.stands(1), 0);
        due("1 burns", sent.burning(0, 6), 2);
        // the most that eight of 99 can bear is below 999, so that somebody is the weakest
        CopperTies ring = Check.belt("hl99;hl99;hl99;hl99;hl99;hl99;hl99;hl99;w;wa1b2;wa2b3;wa3b4;wa4b5;wa5b6;wa6b7;wa7b0");
        due("somebody burns by 999", ring.burning(0, 999) != 0, true);
        due("struck at 0", ring.stands(1), 0);
        due("it stands just so far", ring.burning(0, ring.stands(0) + 1) != 0, true);
        due("and so far", ring.burning(0, ring.stands(0)), 0);
    }

    private static void earthUpTo99() {
        due("both are 99", Check.belt("hl99;hl99").earth(), 0);
        due("0 bears 99, 1 bears 90", Check.belt("hl89;hl90").earth(), 0);
        due("1 bears 99, 0 bears 90", Check.belt("hl90;hl89").earth(), 1);
        due("all alike: the lowest", Check.belt("hl5;hl5;hl5").earth(), 0);
        due("two of the weakest: the lowest of all", Check.belt("hl5;hl4;hl4").earth(), 0);
        due("the weakest one", Check.belt("hl5;hl5;hl4").earth(), 2);
        due("by as much as 10", Check.belt("hl20;hl9;hl19").earth(), 1);
        due("no copper is asked for", Check.belt("sc0;hl5;hl4").earth(), 1);
        // each half of 10: of 21 at 0 11 come to 1; EARTHED, 1 bears them, and 0 bears up to 21
        due("who is not struck", Check.belt("hl10;hl5;w").earth(), 1);
        due("no belt", new CopperTies().earth(), NONE);
        due("as by hand", standsEarthed("hl7;hl12;hl9;w;wa1b2s3"), Check.belt("hl7;hl12;hl9;w;wa1b2s3").earth());
        due("as by hand", standsEarthed("sd4;hl9;hl9;hl30;w;wb2;wa1b2"), Check.belt("sd4;hl9;hl9;hl30;w;wb2;wa1b2").earth());
    }

    private static CopperTies byLaw(String text, String... laws) {
        CopperTies x = Check.belt(text);
        for (String law : laws) {
            Check.tape(x, law);
            due("the law " + law, x.law(x.text(1)), true);
        }
        return x;
    }

    private static void earthJustSo() {
        due("the eighth", Check.belt("hl9;hl9;hl9;hl9;hl9;hl9;hl9;hl5").earth(), 7);
        due("all eight alike", Check.belt("hl9;hl9;hl9;hl9;hl9;hl9;hl9;hl9").earth(), 0);
        // 1 sends all to 0 below 20 and keeps all from 20 on: EARTHED, 20 is just what it bears
        String law = "y:t=9?p;y:p<20?0;y:p";
        due("19 as it is", byLaw("ht9l99;hl10;w", law).stands(0), 19);
        due("20 by 1", byLaw("ht9l99;hl10;w", law).earth(), 1);
        due("19 by either", byLaw("ht9l99;hl9;w", law).earth(), 0);
        // the same where the law looks at what a house bears
        String looking = "y:t=9?p;y:p<20?l-l;y:p";
        due("20 by 1, looked at", byLaw("ht9l99;hl10;w", looking).earth(), 1);
        due("19 by either, looked at", byLaw("ht9l99;hl9;w", looking).earth(), 0);
    }

    /** A house that is EARTHED bears more, so a LAW with l has it keep otherwise. */
    private static void earthByWhatItBears() {
        // 0 sends all while it bears 10; EARTHED, it would keep all, and burn by 21
        String law = "y:t=9?p;y:l>15?p;y:0";
        CopperTies x = byLaw("hl10;ht9l99;w", law);
        due("99 as it is", x.stands(0), 99);
        due("20 by 0, 99 by 1", x.earth(), 1);
        due("bears as before", x.house(0, 2), 10);
        due("99 still", x.stands(0), 99);
        // 10 by 11 is nothing, 20 by 11 is all: no other letter
        due("no other letter", byLaw("hl10;hl99;w", "y:l/11*99").earth(), 1);
        due("the first of all", byLaw("hl10;hl99;w", "y:l>15?p;y:0").earth(), 1);
        due("in a later clause", byLaw("hl10;ht9l99;w", "y:t=9?p;y:p=1?0;y:15<l?p").earth(), 1);
        // the law that holds is looked at, not another one
        due("the second law", byLaw("hl10;ht9l99;w", "y:0", law).earth(), 1);
        CopperTies none = byLaw("hl10;ht9l99;w", law);
        none.law(NONE);
        due("no law: 0 keeps half", none.earth(), 0);
        // 99 at most: 1 keeps all, but with more than 99 it would send half of it to 2, which bears 1
        String most = "y:t=9?p;y:t=8?0;y:l>99?0;y:p";
        due("95 as it is", byLaw("ht9l99;hl95;ht8l1;wa1b2;w", most).stands(0), 95);
        due("99 at most", byLaw("ht9l99;hl95;ht8l1;wa1b2;w", most).earth(), 1);
        due("eight, the last one", byLaw("hl9;hl9;hl9;hl9;hl9;hl9;hl9;hl5;w", "y:l").earth(), 7);
    }

    /** Earths each house by hand and looks how far all stand. */
    private static int standsEarthed(String text) {
        int best = NONE;
        int most = NONE;
        for (int h = 0; h < Check.belt(text).count(0); h++) {
            CopperTies x = Check.belt(text);
            x.ground(h);
            if (x.stands(0) > most) {
                most = x.stands(0);
                best = h;
            }
        }
        return best;
    }

    // ---- towns

    private static void singlesAndTowns() {
        CopperTies x = Check.belt("h;h;h;h;h;h;h;h");
        due("all are single", x.single(), 255);
        for (int h = 0; h < 8; h++) {
            due("a town of itself", x.town(h), 1 << h);
        }
        due("town(8)", x.town(8), NONE);
        due("town(-1)", x.town(-1), NONE);
        due("8 salt", Check.belt("h;h;ws8").single(), 0);
        due("9 salt", Check.belt("h;h;ws9").single(), 3);
        due("8 salt", Check.belt("h;h;ws8").town(1), 3);
        due("9 salt", Check.belt("h;h;ws9").town(1), 2);
        // from end to end, wires told against the way
        CopperTies line = Check.belt("h;h;h;h;h;h;h;h;wa6b7;wa5b6;wa4b5;wa3b4;wa2b3;wa1b2;wa0b1");
        due("from the first", line.town(0), 255);
        due("from the last", line.town(7), 255);
        due("nobody is single", line.single(), 0);
        line.cut(3);
        due("cut in the middle", line.town(0), 15);
        due("cut in the middle", line.town(7), 240);
        line.cut(0);
        due("7 is single", line.single(), 128);
        due("no belt", new CopperTies().single(), NONE);
        due("no belt", new CopperTies().town(0), NONE);
    }

    private static void ringsAndBridges() {
        CopperTies none = Check.belt("h;h");
        due("no rings", none.net(0), 0);
        due("no bridges", none.net(1), 0);
        due("what 2", none.net(2), NONE);
        due("what -1", none.net(-1), NONE);
        due("one bridge", Check.belt("h;h;w").net(1), 1);
        due("full of salt it is none", Check.belt("h;h;ws9").net(1), 0);
        due("full of salt there is no ring", Check.belt("h;h;h;w;wb2;wa1b2s9").net(0), 0);
        due("with 8 there is", Check.belt("h;h;h;w;wb2;wa1b2s8").net(0), 1);
        due("a ring has no bridge", Check.belt("h;h;h;w;wb2;wa1b2s8").net(1), 0);
        due("seven bridges", Check.belt("h;h;h;h;h;h;h;h;w;wa1b2;wa2b3;wa3b4;wa4b5;wa5b6;wa6b7").net(1), 127);
        due("and no ring", Check.belt("h;h;h;h;h;h;h;h;w;wa1b2;wa2b3;wa3b4;wa4b5;wa5b6;wa6b7").net(0), 0);
        due("one ring of eight", Check.belt("h;h;h;h;h;h;h;h;" + RING_OF_EIGHT).net(0), 1);
        due("and no bridge", Check.belt("h;h;h;h;h;h;h;h;" + RING_OF_EIGHT).net(1), 0);
        due("16 wires, 7 needed", crowd(9).net(0), 9);
        // two rings, a bridge between them
        CopperTies two = Check.belt("h;h;h;h;h;h;w;wb2;wa1b2;wa2b3;wa3b4;wa4b5;wa3b5");
        due("two rings", two.net(0), 2);
        due("one bridge", two.net(1), 8);
        two.cut(3);
        due("two rings in two towns", two.net(0), 2);
        due("no bridge", two.net(1), 0);
        // the sixteenth wire
        CopperTies late = Check.belt("sc99;h;h");
        for (int i = 0; i < 15; i++) {
            late.lay(0, 1);
            late.cut(i);
        }
        late.lay(0, 1);
        due("the sixteenth", late.net(1), 1 << 15);
        due("no belt", new CopperTies().net(0), NONE);
    }

    // ---- games

    private static void gamesAtTheirEdges() {
        CopperTies x = Check.belt("hl20;hl9");
        due("v 1, apart", x.game(0, 1, 1, 0, 0, 0), 19);
        due("v 1, joined: none of its own, 1 of the other's", x.game(0, 1, 1, 1, 1, 0), 19);
        due("v 999, apart", x.game(0, 1, 999, 0, 0, 1), 9 - 999);
        due("v 999, joined", x.game(0, 1, 999, 1, 1, 1), 9 - 500);
        due("v 0", x.game(0, 1, 0, 0, 0, 0), HIDDEN);
        due("v 1000", x.game(0, 1, 1000, 0, 0, 0), HIDDEN);
        // x alone, y alone: apart
        due("x alone", x.game(0, 1, 30, 1, 0, 0), -10);
        due("y alone", x.game(0, 1, 30, 0, 1, 0), -10);
        due("both", x.game(0, 1, 30, 1, 1, 0), 5);
        due("x 2", x.game(0, 1, 30, 2, 0, 0), HIDDEN);
        due("x -1", x.game(0, 1, 30, -1, 0, 0), HIDDEN);
        due("y 2", x.game(0, 1, 30, 0, 2, 0), HIDDEN);
        due("y -1", x.game(0, 1, 30, 0, -1, 0), HIDDEN);
        due("what 2", x.game(0, 1, 30, 0, 0, 2), HIDDEN);
        due("what -1", x.game(0, 1, 30, 0, 0, -1), HIDDEN);
        due("alike", x.game(1, 1, 30, 0, 0, 0), HIDDEN);
        due("house 2", x.game(0, 2, 30, 0, 0, 0), HIDDEN);
        due("house -1", x.game(-1, 0, 30, 0, 0, 0), HIDDEN);
        due("two chapels", Check.belt("hk2;hk2").game(0, 1, 30, 0, 0, 0), HIDDEN);
        due("one chapel", Check.belt("hk2;h").game(0, 1, 30, 0, 0, 0), -10);
        CopperTies wed = Check.belt("h;h;ws9");
        due("a wire full of salt", wed.game(0, 1, 30, 0, 0, 0), HIDDEN);
        wed.cut(0);
        due("a cut wire", wed.game(0, 1, 30, 0, 0, 0), -10);
        due("joined without salt", wed.game(0, 1, 30, 1, 1, 0), 5);
        due("no belt", new CopperTies().game(0, 1, 30, 0, 0, 0), HIDDEN);
    }

    private static void gamesByTheLastWire() {
        // 0 - 1 - 3 - 2, and the wire of 0 and 2 is the last one: what 0 sends to 1 goes ahead of it,
        // so 3 sends on to 2 what came by 1; and the same turned round
        CopperTies x = Check.belt("h;h;h;h;w;wa1b3;wa2b3", "y:0");
        due("joined, one", x.game(0, 2, 40, 1, 1, 0), 0);
        due("joined, other", x.game(0, 2, 40, 1, 1, 1), 0);
        due("apart, one", x.game(0, 2, 40, 0, 0, 0), -20);
        due("apart, other", x.game(0, 2, 40, 1, 0, 1), -20);
        due("it is there no more", x.keeps(0, 40, 2), 40);
        // as if it were laid by hand
        x.lay(0, 2);
        kept(x, "laid", 0, 40, 0, 0, 20, 20);
        kept(x, "laid", 2, 40, 20, 20, 0, 0);
    }

    private static void restsAre(CopperTies x, int v, int... want) {
        due("how many rest by " + v, x.rests(0, 1, v, NONE), want.length);
        for (int i = 0; i < want.length; i++) {
            due("rests, " + i, x.rests(0, 1, v, i), want[i]);
        }
        due("no more", x.rests(0, 1, v, want.length), NONE);
        due("i -2", x.rests(0, 1, v, -2), NONE);
    }

    private static void restsOfAllSorts() {
        // joined is better for both
        restsAre(Check.belt("h;h"), 30, 0, 11);
        // as good: all four
        restsAre(Check.belt("h;h", "y:0"), 30, 0, 1, 10, 11);
        restsAre(Check.belt("h;h"), 1, 0, 1, 10, 11);
        restsAre(Check.belt("h;h", "y:p"), 999, 0, 1, 10, 11);
        // 0 a bank that keeps all: as good for it, better for 1, which has no other wire
        restsAre(Check.belt("hk1;h", "y:k=1?p;y:0"), 30, 0, 1, 11);
        restsAre(Check.belt("h;hk1", "y:k=1?p;y:0"), 30, 0, 10, 11);
        // 0 sends all to 2 while apart; joined with 1, of two wires it keeps all: worse for 0; 1 sends
        // all to 0 then: better for 1, so it would join where 0 would, and 0 would not
        restsAre(Check.belt("h;h;h;wb2", "y:n=2?p;y:0"), 30, 0, 1);
        restsAre(Check.belt("h;h;h;wa1b2", "y:n=2?p;y:0"), 30, 0, 10);
        // worse for both: each sends all away while apart
        restsAre(Check.belt("h;h;h;h;wb2;wa1b3", "y:n=2?p;y:0"), 30, 0, 1, 10);
        CopperTies x = Check.belt("h;h;hk2;hk2;wa1b2");
        due("v 0", x.rests(0, 1, 0, NONE), NONE);
        due("v 1000", x.rests(0, 1, 1000, NONE), NONE);
        due("v 999", x.rests(0, 1, 999, NONE) >= 1, true);
        due("alike", x.rests(1, 1, 30, NONE), NONE);
        due("house 4", x.rests(0, 4, 30, NONE), NONE);
        due("two chapels", x.rests(2, 3, 30, NONE), NONE);
        due("a wire", x.rests(1, 2, 30, NONE), NONE);
        due("i 4", x.rests(0, 1, 30, 4), NONE);
    }

    private static void leavesForLess() {
        // keeping as much is no reason: struck, each sends all to the other one
        due("as much", Check.belt("h;h;w", "y:0").leaves(30), 0);
        due("less by the wire", Check.belt("h;h;w").leaves(30), 0);
        due("no wires", Check.belt("h;h").leaves(30), 0);
        due("v 1", Check.belt("h;h;w").leaves(1), 0);
        due("v 999", Check.belt("h;h;w").leaves(999), 0);
        due("v 0", Check.belt("h;h;w").leaves(0), NONE);
        due("v 1000", Check.belt("h;h;w").leaves(1000), NONE);
        // 0 sends all to 2 without the wire to 1; with it, of two wires, it keeps all: it would leave
        // 1 though, and not 2: without 2 it has one wire, sends all to 1, and gets all of 1's back
        CopperTies x = Check.belt("h;h;h;wb2;w", "y:n=2?p;y:0");
        // cut wire 0 (0 - 2): of strokes at 0 and 2: 0 keeps 0 by its own, and 0 by 2's: less than 30
        // cut wire 1 (0 - 1): the same with 1
        due("either", x.leaves(30), 3);
        // whichever of its houses is told first
        due("either, by the second one", Check.belt("h;h;h;wa2b0;wa1b0", "y:n=2?p;y:0").leaves(30), 3);
        x.summers(9);
        due("none is live", x.leaves(30), 0);
        x.scrape(1);
        due("one is live: cut or not, all is kept once", x.leaves(30), 0);
        due("no belt", new CopperTies().leaves(1), NONE);
    }

    // ---- scorches

    private static void scorchedTen() {
        CopperTies x = Check.belt("h;h;w");
        due("none", x.count(11), 0);
        due("v 1", x.scorched(0, 1, 1, false), 1);
        due("v 999", x.scorched(1, 999, 0, true), 2);
        due("v 0", x.scorched(0, 0, 1, false), NONE);
        due("v 1000", x.scorched(0, 1000, 1, false), NONE);
        due("house 2", x.scorched(2, 1, 1, false), NONE);
        due("house 2", x.scorched(0, 1, 2, false), NONE);
        due("house -1", x.scorched(-1, 1, 1, false), NONE);
        due("house -1", x.scorched(0, 1, -1, false), NONE);
        for (int i = 3; i <= 10; i++) {
            due("scorched", x.scorched(0, i, 1, false), i);
        }
        due("ten fit", x.who(0, NONE), 1);
        // an eleventh that none could fit is not heard
        due("an eleventh", x.scorched(0, 1, 1, true), NONE);
        due("ten", x.count(11), 10);
        due("ten still fit", x.who(0, NONE), 1);
        // the tenth counts
        CopperTies y = Check.belt("h;h;w");
        for (int i = 0; i < 9; i++) {
            y.scorched(0, 1, 1, false);
        }
        due("nine fit", y.who(0, NONE), 1);
        y.scorched(0, 1, 1, true);
        due("the tenth fits none", y.who(0, NONE), 0);
        due("no belt", new CopperTies().scorched(0, 1, 1, true), NONE);
    }

    private static void whoIs(CopperTies x, int k, int... want) {
        due("who(" + k + ", NONE)", x.who(k, NONE), want.length);
        for (int i = 0; i < want.length; i++) {
            due("who(" + k + ", " + i + ")", x.who(k, i), want[i]);
        }
        due("who: no more", x.who(k, want.length), NONE);
        due("who(" + k + ", -2)", x.who(k, -2), NONE);
    }

    private static void whoOfFew() {
        CopperTies none = Check.belt("h;h");
        whoIs(none, 0, 0);
        whoIs(none, 1);
        whoIs(none, 2);
        due("sure(0)", none.sure(0), 0);
        due("sure(1): nothing fits", none.sure(1), NONE);
        due("best(0)", none.best(0), 0);
        due("best(1): nothing fits", none.best(1), NONE);
        CopperTies one = Check.belt("h;h;w");
        whoIs(one, 0, 0);
        whoIs(one, 1, 1);
        whoIs(one, 2);
        due("sure(1)", one.sure(1), 1);
        due("sure(2): nothing fits", one.sure(2), NONE);
        due("best(2): nothing fits", one.best(2), NONE);
        due("k 3", one.who(3, NONE), NONE);
        due("k -1", one.who(-1, NONE), NONE);
        due("sure(3)", one.sure(3), NONE);
        due("sure(-1)", one.sure(-1), NONE);
        due("best(3)", one.best(3), NONE);
        due("best(-1)", one.best(-1), NONE);
        CopperTies three = Check.belt("h;h;h;w;wb2;wa1b2");
        for (int k : new int[] {-1, 3, 4}) {
            due("of three wires, who(" + k + ")", three.who(k, NONE), NONE);
            due("of three wires, sure(" + k + ")", three.sure(k), NONE);
            due("of three wires, best(" + k + ")", three.best(k), NONE);
        }
        // live ones alone
        CopperTies some = Check.belt("h;h;h;h;w;wb2s9;wa1b2s8;wb3");
        some.cut(3);
        whoIs(some, 1, 1, 4);
        whoIs(some, 2, 5);
        due("sure(2)", some.sure(2), 5);
        // nothing fits: 1 would have burnt by 1
        some.scorched(0, 1, 1, true);
        for (int k = 0; k < 3; k++) {
            whoIs(some, k);
            due("sure(" + k + ")", some.sure(k), NONE);
            due("best(" + k + ")", some.best(k), NONE);
        }
    }

    /** Two couples that send all to one another; each is told by its own belt what scorched. */
    private static CopperTies couplesThat(int struck, int v, int house, boolean is) {
        CopperTies x = Check.belt("hl5;hl5;hl5;hl5;w;wa2b3", "y:0");
        due("told", x.scorched(struck, v, house, is), 1);
        return x;
    }

    private static void whoBySuchOnes() {
        whoIs(couplesThat(0, 10, 1, true), 1, 2);
        whoIs(couplesThat(0, 10, 1, false), 1, 1);
        // where it struck, what it did
        whoIs(couplesThat(2, 10, 3, true), 1, 1);
        whoIs(couplesThat(2, 10, 3, false), 1, 2);
        whoIs(couplesThat(1, 10, 0, false), 1, 1);
        // the struck one itself: cut off, it burns
        whoIs(couplesThat(0, 10, 0, true), 1, 1);
        whoIs(couplesThat(3, 10, 3, true), 1, 2);
        // by how much: 5 are borne
        whoIs(couplesThat(0, 5, 1, true), 1);
        whoIs(couplesThat(0, 5, 1, false), 1, 1, 2);
        whoIs(couplesThat(0, 6, 1, true), 1, 2);
        // none cut, both cut
        whoIs(couplesThat(0, 10, 1, true), 0, 0);
        whoIs(couplesThat(0, 10, 1, false), 0);
        whoIs(couplesThat(0, 10, 1, true), 2);
        whoIs(couplesThat(0, 10, 1, false), 2, 3);
        // all that is told must be so
        CopperTies both = couplesThat(0, 10, 1, false);
        both.scorched(2, 10, 3, true);
        whoIs(both, 1, 1);
        due("sure of it", both.sure(1), 1);
        both.scorched(2, 10, 3, false);
        whoIs(both, 1);
        due("nothing fits", both.sure(1), NONE);
        due("nothing fits", both.best(1), NONE);
        // as it is now: earthed, 10 are borne, so that nobody can have burnt
        CopperTies now = couplesThat(0, 10, 1, true);
        now.ground(1);
        whoIs(now, 1);
        now.undo();
        whoIs(now, 1, 2);
        now.cut(1);
        whoIs(now, 1);
        whoIs(now, 0, 0);
    }

    private static void whoOfMany() {
        CopperTies x = Check.belt("sc99;h;h;h;h;h;h;h;h;w;wa1b2;wa2b3;wa3b4;wa4b5;wa5b6;wa6b7;wa7b0");
        for (int h = 0; h < 8; h++) {
            x.lay(h, (h + 2) % 8);
        }
        due("one set of none", x.who(0, NONE), 1);
        due("sixteen of one", x.who(1, NONE), 16);
        due("the last of one", x.who(1, 15), 1 << 15);
        due("no seventeenth", x.who(1, 16), NONE);
        due("120 of two", x.who(2, NONE), 120);
        due("the first of two", x.who(2, 0), 3);
        due("the second of two", x.who(2, 1), 5);
        due("the third of two", x.who(2, 2), 6);
        due("the fourth of two", x.who(2, 3), 9);
        due("the last of two", x.who(2, 119), 3 << 14);
        due("no more", x.who(2, 120), NONE);
        due("none is in all of them", x.sure(2), 0);
    }

    private static void lookBy50() {
        // 50 is borne by 50: struck at 0 none burns whatever is cut; by 49 it is not
        due("by 50 at 2", Check.belt("hl50;hl50;hl49;hl49;w;wa2b3").best(1), 2);
        due("all alike: the lowest", Check.belt("hl50;hl50;hl50;hl50;w;wa2b3").best(1), 0);
        due("all burn: the lowest", Check.belt("hl1;hl1;hl1;hl1;w;wa2b3").best(1), 0);
        due("at the eighth", Check.belt("hl50;hl50;hl50;hl50;hl50;hl50;hl50;hl49;w;wa6b7").best(1), 7);
        // anybody: struck at 0 it is 1 that burns
        due("another burns", Check.belt("hl99;hl5;hl99;hl99;w;wa2b3", "y:0").best(1), 0);
    }

    private static void lookOfSeveral() {
        // three wires, k 1: struck at 0 one of three cuts burns (2 and 1 apart), at 2 and 3, too;
        // the lowest
        CopperTies x = Check.belt("hl49;hl49;hl49;hl49;hl49;hl49;w;wa2b3;wa4b5");
        due("of several the lowest", x.best(1), 0);
        // yes and no as many at 2 alone: of the sets that fit, two, wire 0 or wire 1
        CopperTies y = Check.belt("hl99;hl99;hl49;hl49;w;wa2b3");
        due("least apart", y.best(1), 2);
        // k 2: one set alone fits: yes or no at all is one apart everywhere
        due("one set", y.best(2), 0);
        due("no set cut: one apart everywhere", y.best(0), 0);
        due("no belt", new CopperTies().best(0), NONE);
    }

    // ---- odds

    private static void oddsCut() {
        // a third each, each cut
        CopperTies x = Check.belt("hl1t1;hl1t1;hl1t1;w;wb2;wa1b2");
        due("three thirds, cut", x.odds(0, 999), 999999999);
        due("one third", Check.belt("hl1t1;hl1t1;hl1t1").odds(0, 2), 333333333);
        due("as much as it bears", Check.belt("hl1t1;hl1t1;hl1t1").odds(0, 1), 0);
        due("two thirds", Check.belt("hl1t2;hl1t1").odds(0, 2), 666666666);
        due("all", Check.belt("hl1t9;hl1t1;w").odds(1, 999), 1000000000);
        due("9 of 72", Check.belt("hl1t9;ht9;ht9;ht9;ht9;ht9;ht9;ht9").odds(0, 2), 125000000);
        due("1 of 64", Check.belt("hl1t1;ht9;ht9;ht9;ht9;ht9;ht9;ht9").odds(0, 2), 15625000);
        due("v 1", x.odds(0, 1), 0);
        due("v 0", x.odds(0, 0), NONE);
        due("v 1000", x.odds(0, 1000), NONE);
        due("house 3", x.odds(3, 1), NONE);
        due("house -1", x.odds(-1, 1), NONE);
        due("no belt", new CopperTies().odds(0, 1), NONE);
    }

    private static void premiumsRoundedUp() {
        CopperTies third = Check.belt("hl1t1;hl1t1;hl1t1");
        due("a third of 1", third.premium(0, 2, 1), 1);
        due("a third of 3, cut, rounded up", third.premium(0, 2, 3), 1);
        due("a third of 4", third.premium(0, 2, 4), 2);
        due("a third of 999", third.premium(0, 2, 999), 333);
        CopperTies half = Check.belt("hl1;h");
        due("half of 1", half.premium(0, 2, 1), 1);
        due("half of 2 is 1, not more", half.premium(0, 2, 2), 1);
        due("half of 3", half.premium(0, 2, 3), 2);
        due("half of 998", half.premium(0, 2, 998), 499);
        due("half of 999", half.premium(0, 2, 999), 500);
        due("nothing of 999", half.premium(0, 1, 999), 0);
        due("nothing of 1", half.premium(1, 1, 1), 0);
        due("all of 999", Check.belt("hl1;hl1;w").premium(0, 999, 999), 999);
        due("all of 1", Check.belt("hl1;hl1;w").premium(0, 999, 1), 1);
        due("c 0", half.premium(0, 2, 0), NONE);
        due("c -1", half.premium(0, 2, -1), NONE);
        due("c 1000", half.premium(0, 2, 1000), NONE);
        due("v 0", half.premium(0, 0, 1), NONE);
        due("v 1000", half.premium(0, 1000, 1), NONE);
        due("house 2", half.premium(2, 1, 1), NONE);
        due("no belt", new CopperTies().premium(0, 1, 1), NONE);
    }

    private static void testsTwelve() {
        CopperTies x = Check.belt("h;h");
        due("sort 3", x.test(3, true), NONE);
        due("sort -1", x.test(-1, true), NONE);
        due("none", x.count(12), 0);
        for (int i = 1; i <= 12; i++) {
            due("test", x.test(2, true), i);
        }
        int before = x.stroke();
        due("a thirteenth", x.test(2, true), NONE);
        due("as before", x.stroke(), before);
        due("twelve", x.count(12), 12);
        due("no belt", new CopperTies().test(0, true), NONE);
        due("no belt", new CopperTies().stroke(), NONE);
    }

    private static int strokeBehind(int sort, boolean is, int times) {
        CopperTies x = Check.belt("h;h");
        for (int i = 0; i < times; i++) {
            x.test(sort, is);
        }
        return x.stroke();
    }

    private static void strokeOrSpark() {
        due("at first", strokeBehind(0, true, 0), 500000);
        due("8 by 11", strokeBehind(0, true, 1), 727272);
        due("2 by 9", strokeBehind(0, false, 1), 222222);
        due("7 by 8", strokeBehind(1, true, 1), 875000);
        due("3 by 12", strokeBehind(1, false, 1), 250000);
        due("6 by 11", strokeBehind(2, true, 1), 545454);
        due("4 by 9", strokeBehind(2, false, 1), 444444);
        // 7 to the 12th by that and 1: below a million still
        due("twelve marks", strokeBehind(1, true, 12), 999999);
        // 2 to the 12th by that and 7 to the 12th: 0.29 millionths
        due("twelve times no smell", strokeBehind(0, false, 12), 0);
        // 8 to the 12th (68719476736) by that and 3 to the 12th (531441)
        due("twelve smells", strokeBehind(0, true, 12), 999992);
        // 3 to the 12th by that and 9 to the 12th: 1 by 531442
        due("twelve times no mark", strokeBehind(1, false, 12), 1);
    }

    // ---- places, and the most

    private static void farApart() {
        CopperTies x = Check.belt("hx0;hx20;hx20");
        due("20", x.far(0, 1), 20);
        due("20", x.far(1, 0), 20);
        due("0", x.far(1, 2), 0);
        due("itself", x.far(2, 2), 0);
        due("house 3", x.far(0, 3), NONE);
        due("house 3", x.far(3, 3), NONE);
        due("house -1", x.far(-1, 0), NONE);
        due("no belt", new CopperTies().far(0, 0), NONE);
    }

    private static void mostOfSeveral() {
        due("tallest of alike ones", Check.belt("h;h;h").most(0), 0);
        due("tallest", Check.belt("ht8;ht9;ht9").most(0), 1);
        due("tallest, the last", Check.belt("ht8;ht8;ht9").most(0), 2);
        due("tallest of eight", Check.belt("h;h;h;h;h;h;h;ht4").most(0), 7);
        CopperTies eighth = Check.belt("h;h;h;h;h;h;h;hl1");
        eighth.strike(7, 2);
        due("blue of eight", eighth.most(1), 7);
        due("last of sixteen", crowd(9).most(2), 0);
        CopperTies x = Check.belt("hl1;hl1;hl1;ws8;wa1b2s8;wb2s9");
        due("blue where none has burnt", x.most(1), 0);
        due("last of several", x.most(2), 0);
        // it keeps 2, the other 2 are lost by salt
        x.strike(2, 4);
        due("blue", x.most(1), 2);
        x.cut(0);
        due("a cut one is none", x.most(2), 1);
        x.summers(1);
        due("none is live", x.most(2), NONE);
        due("no wires", Check.belt("h;h").most(2), NONE);
        due("without salt", Check.belt("h;h;w").most(2), 0);
        due("what 3", x.most(3), NONE);
        due("what -1", x.most(-1), NONE);
        due("no belt", new CopperTies().most(0), NONE);
    }

    private static void countsOfOthers() {
        CopperTies x = Check.belt("h;h;w");
        due("count(-1)", x.count(-1), HIDDEN);
        due("count(15)", x.count(15), HIDDEN);
        due("count(14)", x.count(14), 0);
        due("count(0)", x.count(0), 2);
        due("count(4)", x.count(4), NONE);
        due("without a belt, count(15)", new CopperTies().count(15), HIDDEN);
    }
}
