/** The edges of what is told by the tape: promises 1 to 5 and 8, and part 1 of the terms. */
public final class TextEdgeTest {
    private static final String EIGHT_HOUSES = "h;h;h;h;h;h;h;h";
    /** Eight wires of eight houses, no two of the same two. */
    private static final String EIGHT_WIRES = ";wa0b1;wa1b2;wa2b3;wa3b4;wa4b5;wa5b6;wa6b7;wa7b0";

    private TextEdgeTest() {
    }

    public static void main(String[] args) {
        aNewObject();
        feedToTheBrim();
        feedInOrder();
        endCutsOff();
        faultKeepsTheTape();
        everyNumberOfEveryLetter();
        numbersOfThreeDigits();
        whatHoldsWithout();
        lettersOnce();
        howManyOfEach();
        anyOrder();
        blanksInBelts();
        faultsAtTheLength();
        theFirstFaultCounts();
        onlySuchSigns();
        fullTapes();
        lawNumbers();
        lawShapes();
        lawNesting();
        blanksInLaws();
        lawBounds();
        lawDivides();
        lawTruths();
        lawNegations();
        lawFirstThatHolds();
        lawsOneToFour();
        aBeltInsteadOfAnother();
        Check.finish();
    }

    private static void due(String call, long got, long want) {
        Check.due(call, got, want);
    }

    private static void due(String call, boolean got, boolean want) {
        Check.due(call, got, want);
    }

    private static CopperTies told(String text) {
        CopperTies x = new CopperTies();
        Check.tape(x, text);
        return x;
    }

    private static void fault(int sort, String text, int want) {
        CopperTies x = told(text);
        due("fault(" + sort + ") of <" + text + ">", x.fault(sort), want);
        due("text(" + sort + ") of <" + text + "> is told", x.text(sort) >= 0, want == -1);
        due("tape behind <" + text + ">", x.count(3), want == -1 ? 0 : text.length());
    }

    private static void sound(int sort, String text) {
        fault(sort, text, -1);
    }

    /** The text ends too early, or is wrong as a whole. */
    private static void faultAtLength(int sort, String text) {
        fault(sort, text, text.length());
    }

    /** The fault stands at the sign behind the mark ^, which is not in the text itself. */
    private static void faultAtMark(int sort, String text) {
        int at = text.indexOf('^');
        fault(sort, text.substring(0, at) + text.substring(at + 1), at);
    }

    // ---- promises 1 to 4

    private static void aNewObject() {
        CopperTies x = new CopperTies();
        due("no belt: no houses", x.count(0), 0);
        due("none holds at first", x.count(4), -1);
        due("STORMS 5 at first", x.count(9), 5);
        due("KITES 0 at first", x.count(10), 0);
        due("an empty tape is no belt", x.fault(0), 0);
        due("an empty tape is no law", x.fault(1), 0);
        due("another object stands alone", new CopperTies().count(3), 0);
    }

    private static void feedToTheBrim() {
        CopperTies x = new CopperTies();
        for (int i = 1; i <= 12; i++) {
            due("twenty bytes more", x.feed(-1, -1, -1, -1, -1), 20 * i);
        }
        due("240 are there, and none comes", x.feed(0, 0, 0, 0, 0), 240);
        due("the 241st", x.feed(1, 0, 0, 0, 0), -1);
        due("still 240", x.count(3), 240);
        x.end(221);
        due("20 on 221", x.feed(-1, -1, -1, -1, -1), -1);
        due("still 221", x.count(3), 221);
        due("19 on 221", x.feed(-1, -1, -1, -1, 0xFFFFFF00), 240);
        x.end(220);
        due("20 on 220", x.feed(-1, -1, -1, -1, -1), 240);
        x.end(239);
        due("two on 239", x.feed(0x41000000, 0, 0, 0, 0x41), -1);
        due("still 239", x.count(3), 239);
        due("one on 239", x.feed(0, 0, 0x00410000, 0, 0), 240);
    }

    private static void feedInOrder() {
        // the highest byte first, zeros wherever they stand left out: "ht9l7;hl8"
        CopperTies x = new CopperTies();
        due("nothing", x.feed(0, 0, 0, 0, 0), 0);
        due("h", x.feed(0x00006800, 0, 0, 0, 0), 1);
        due("t9l", x.feed(0x00740039, 0, 0x6C000000, 0, 0), 4);
        due("7;hl8", x.feed(0x373B6800, 0, 0, 0x0000006C, 0x00380000), 9);
        due("it reads", x.text(0), 2);
        due("HEIGHT 9", x.house(0, 1), 9);
        due("BEARS 7", x.house(0, 2), 7);
        due("BEARS 8", x.house(1, 2), 8);
        // bytes above 127 are bytes like others
        CopperTies high = new CopperTies();
        due("80 FF", high.feed(0x80FF0000, 0, 0, 0, 0), 2);
        due("not left out", high.count(3), 2);
        due("nor read", high.fault(0), 0);
        // a byte that has the lower bits of a letter is not that letter
        CopperTies odd = new CopperTies();
        odd.feed(0xE83B6800, 0, 0, 0, 0);
        due("E8 is no h", odd.fault(0), 0);
    }

    private static void endCutsOff() {
        CopperTies x = told("h;h;q");
        due("faulty", x.fault(0), 4);
        due("end(6)", x.end(6), false);
        due("end(5): all", x.end(5), true);
        due("five", x.count(3), 5);
        due("end(3)", x.end(3), true);
        due("the first three alone", x.fault(0), -1);
        due("end(4): gone is gone", x.end(4), false);
        Check.tape(x, "l5");
        due("goes on behind them", x.count(3), 5);
        due("h;hl5", x.text(0), 2);
        due("BEARS 5", x.house(1, 2), 5);
        due("end(0) of an empty tape", x.end(0), true);
        due("end(1) of an empty tape", x.end(1), false);
        Check.tape(x, "abc");
        due("end(0)", x.end(0), true);
        due("none", x.count(3), 0);
        due("end(-1)", x.end(-1), false);
    }

    private static void faultKeepsTheTape() {
        CopperTies x = told("h;h");
        due("a belt", x.fault(0), -1);
        due("no law", x.fault(1), 0);
        due("again a belt", x.fault(0), -1);
        due("the tape is there", x.count(3), 3);
        due("no belt yet", x.count(0), 0);
        due("sort 2", x.fault(2), -2);
        due("sort -1", x.fault(-1), -2);
    }

    // ---- belts

    private static final String[] CLAUSES = {"s", "s", "h", "h", "h", "h", "w", "w", "w"};
    private static final char[] LETTERS = {'c', 'd', 'x', 't', 'l', 'k', 'a', 'b', 's'};
    private static final int[] LOWEST = {0, 0, 0, 1, 1, 0, 0, 0, 0};
    private static final int[] HIGHEST = {99, 9, 20, 9, 99, 3, 7, 7, 9};

    private static long read(CopperTies x, int item) {
        switch (item) {
            case 0:
                return x.count(6);
            case 1:
                return x.count(7);
            case 2:
            case 3:
            case 4:
            case 5:
                return x.house(0, item - 2);
            default:
                return x.wire(0, item - 6);
        }
    }

    /** Such a text of eight houses that what is looked at comes first of its sort. */
    private static String withNumber(int item, String digits) {
        String clause = CLAUSES[item] + LETTERS[item] + digits;
        if (item < 2 || item > 5) {
            return clause + otherEnd(item, digits) + ";" + EIGHT_HOUSES;
        }
        return clause + ";h";
    }

    /** Another house than the one that is told, whatever that is. */
    private static String otherEnd(int item, String digits) {
        if (item == 6) {
            return digits.endsWith("7") ? "b6" : "b7";
        }
        if (item == 7) {
            return digits.endsWith("0") ? "a1" : "a0";
        }
        return "";
    }

    private static void everyNumberOfEveryLetter() {
        for (int item = 0; item < LETTERS.length; item++) {
            for (int n = 0; n <= 99; n++) {
                String plain = Integer.toString(n);
                String two = n < 10 ? "0" + n : plain;
                numberOf(item, n, plain);
                numberOf(item, n, two);
            }
        }
    }

    private static void numberOf(int item, int n, String digits) {
        String text = withNumber(item, digits);
        boolean within = n >= LOWEST[item] && n <= HIGHEST[item];
        // out of bounds: wrong at its last digit
        fault(0, text, within ? -1 : 1 + digits.length());
        if (within) {
            CopperTies x = told(text);
            x.text(0);
            due("read of " + text, read(x, item), n);
        }
    }

    private static void numbersOfThreeDigits() {
        String[] three = {"000", "001", "010", "099", "100", "123", "999", "9999", "200"};
        for (int item = 0; item < LETTERS.length; item++) {
            for (String digits : three) {
                // the third digit itself, whatever stands ahead of it
                fault(0, CLAUSES[item] + LETTERS[item] + digits + ";" + EIGHT_HOUSES, 4);
            }
            // no digit at all
            fault(0, CLAUSES[item] + LETTERS[item] + ";" + EIGHT_HOUSES, 2);
            faultAtLength(0, CLAUSES[item] + LETTERS[item]);
            fault(0, CLAUSES[item] + LETTERS[item] + "-1;h;h", 2);
        }
        // a number out of bounds is wrong at its last digit, though the text ends there
        faultAtMark(0, "h;h;ht^0");
        faultAtMark(0, "h;hx2^1");
        faultAtMark(0, "h;hx9^9");
        faultAtMark(0, "h;hl0^0");
        faultAtMark(0, "h;h;wa^8");
        faultAtMark(0, "h;h;wa1^1");
    }

    private static void whatHoldsWithout() {
        CopperTies x = Check.belt("h;h;w");
        due("COPPER 20 without", x.count(6), 20);
        due("DRY 0 without", x.count(7), 0);
        int[] house = {0, 3, 20, 0};
        for (int h = 0; h < 2; h++) {
            for (int what = 0; what < 4; what++) {
                due("house(" + h + ", " + what + ") without", x.house(h, what), house[what]);
            }
        }
        due("a 0 without", x.wire(0, 0), 0);
        due("b 1 without", x.wire(0, 1), 1);
        due("SALT 0 without", x.wire(0, 2), 0);
        CopperTies ruled = Check.belt("s;h;h");
        due("COPPER 20 without c", ruled.count(6), 20);
        due("DRY 0 without d", ruled.count(7), 0);
        // what an earlier clause or belt told does not stay
        CopperTies again = Check.belt("sc9d9;hx9t9l9k3;h;wa1b0s9");
        Check.tape(again, "s;h;h;w");
        again.text(0);
        due("COPPER 20 again", again.count(6), 20);
        due("DRY 0 again", again.count(7), 0);
        for (int what = 0; what < 4; what++) {
            due("house again", again.house(0, what), house[what]);
        }
        due("a 0 again", again.wire(0, 0), 0);
        due("b 1 again", again.wire(0, 1), 1);
        due("SALT 0 again", again.wire(0, 2), 0);
        CopperTies next = Check.belt("hx9t9l9k3;h;hx1;w;wa1b2s4;wb2");
        due("the next house", next.house(1, 0), 0);
        due("the next wire", next.wire(2, 0), 0);
        due("its salt", next.wire(2, 2), 0);
    }

    private static void lettersOnce() {
        for (int item = 0; item < LETTERS.length; item++) {
            String once = CLAUSES[item] + LETTERS[item] + "1";
            faultAtMark(0, once + "^" + LETTERS[item] + "2;" + EIGHT_HOUSES);
            faultAtMark(0, once + " ^" + LETTERS[item]);
            faultAtMark(0, once + "^" + LETTERS[item] + LETTERS[item]);
        }
        // behind another letter, too
        faultAtMark(0, "hx1t1^x1;h");
        faultAtMark(0, "hx1t1l1k1^k1;h");
        faultAtMark(0, "hx1t1l1k1^x1;h");
        faultAtMark(0, "wa1b0s1^a1;h;h");
        faultAtMark(0, "sc1d1^c1;h;h");
        // once in each clause is no fault
        sound(0, "hx1t1l1k1;hx1t1l1k1;wa0b1s1;h;wa0b2s1");
        // letters of other clauses
        faultAtMark(0, "h^c1;h");
        faultAtMark(0, "h^d1;h");
        faultAtMark(0, "h^a1;h");
        faultAtMark(0, "h^s1;h");
        faultAtMark(0, "h;h;w^x1");
        faultAtMark(0, "h;h;w^t1");
        faultAtMark(0, "h;h;w^c1");
        faultAtMark(0, "h;h;s^s1");
        faultAtMark(0, "h;h;s^l1");
        faultAtMark(0, "h;h;s^a1");
    }

    private static void howManyOfEach() {
        StringBuilder text = new StringBuilder("h");
        faultAtLength(0, text.toString());
        for (int houses = 2; houses <= 8; houses++) {
            text.append(";h");
            sound(0, text.toString());
            due(houses + " houses", told(text.toString()).text(0), houses);
        }
        faultAtMark(0, EIGHT_HOUSES + ";^h");
        faultAtMark(0, EIGHT_HOUSES + ";w;^hx99");
        faultAtLength(0, "s");
        faultAtLength(0, "w;w");
        faultAtLength(0, "s;w;h");
        String[] wires = EIGHT_WIRES.substring(1).split(";");
        StringBuilder joined = new StringBuilder(EIGHT_HOUSES);
        for (int w = 0; w <= 8; w++) {
            CopperTies x = told(joined.toString());
            due("a belt of wires", x.text(0), 8);
            due(w + " wires", x.count(1), w);
            if (w < 8) {
                joined.append(';').append(wires[w]);
            }
        }
        faultAtMark(0, EIGHT_HOUSES + EIGHT_WIRES + ";^wa0b2");
        faultAtMark(0, EIGHT_HOUSES + EIGHT_WIRES + ";^w");
        faultAtMark(0, "h;w;w;w;w;w;w;w;w;^w");
        faultAtMark(0, "s;^s;h;h");
        faultAtMark(0, "h;s;h;^s");
        faultAtMark(0, "s;h;h;w;^s");
        sound(0, "s;h;h");
    }

    private static void anyOrder() {
        // the last wire has b 1 without, and a 1: with itself
        faultAtLength(0, "wb2s4;hl5;wa2b1;hl6;sd3;hl7;wa1");
        CopperTies y = Check.belt("wb2s4;hl5;wa2b1;hl6;sd3;hl7;wb1a0");
        due("three wires", y.count(1), 3);
        due("the first told", y.wire(0, 1), 2);
        due("the second told", y.wire(1, 0), 2);
        due("its other house", y.wire(1, 1), 1);
        due("the third told", y.wire(2, 1), 1);
        due("houses by their order", y.house(1, 2), 6);
        due("rules behind", y.count(7), 3);
        CopperTies items = Check.belt("hk1l2t3x4;hx4t3l2k1");
        for (int what = 0; what < 4; what++) {
            due("items in any order", items.house(0, what), items.house(1, what));
        }
    }

    private static void blanksInBelts() {
        String text = "sc1d2;hx3t4l5k1;h;wa1b0s3";
        StringBuilder wide = new StringBuilder("   ");
        for (int i = 0; i < text.length(); i++) {
            wide.append(text.charAt(i)).append("  ");
        }
        sound(0, wide.toString());
        for (int at = 0; at <= text.length(); at++) {
            sound(0, text.substring(0, at) + " " + text.substring(at));
        }
        // not within numbers
        faultAtMark(0, "h;hl1 ^2");
        faultAtMark(0, "h;hl1  ^2;h");
        faultAtMark(0, "h;hx2 ^0");
        // no blanks but 32
        faultAtMark(0, "h;^\th");
        faultAtMark(0, "h;^\nh");
        faultAtMark(0, "h;^" + (char) 160 + "h");
        faultAtLength(0, " ");
        faultAtLength(0, "h ; ");
        faultAtLength(0, "h  ");
        faultAtLength(0, "h;h;wb2  ");
        sound(0, "h;h  ");
    }

    private static void faultsAtTheLength() {
        // a WIRE of a HOUSE that is not told
        faultAtLength(0, "h;h;wb2");
        faultAtLength(0, "h;h;wa2");
        faultAtLength(0, "wb2;h;h");
        faultAtLength(0, "h;h;h;h;h;h;h;wb7");
        sound(0, EIGHT_HOUSES + ";wb7");
        sound(0, "wb2;h;h;h");
        // or with itself
        faultAtLength(0, "h;h;wa1");
        faultAtLength(0, "h;h;wb0");
        faultAtLength(0, "wa1b1;h;h");
        faultAtLength(0, "wa1b1;h;h;s");
        // two WIRES of the same two HOUSES
        faultAtLength(0, "h;h;w;w");
        faultAtLength(0, "h;h;w;wa1b0");
        faultAtLength(0, "h;h;h;wa1b2;wb2;wa2b1s9");
        sound(0, "h;h;h;wa1b2;wb2;wa1b0");
        // a WIRE of two CHAPELS
        faultAtLength(0, "hk2;hk2;w");
        faultAtLength(0, "w;hk2;hk2");
        faultAtLength(0, "w;hk2;hk2;h");
        sound(0, "w;hk2;h;hk2");
        sound(0, "hk2;hk1;w");
        sound(0, "hk1;hk1;w");
        sound(0, "hk3;hk3;w");
        sound(0, "hk2;hk2");
        // ends too early
        faultAtLength(0, "");
        faultAtLength(0, "h;h;");
        faultAtLength(0, "h;h;w;");
        faultAtLength(0, "h;hx");
        faultAtLength(0, "h;hx1t");
        faultAtLength(0, "s;");
    }

    private static void theFirstFaultCounts() {
        // a byte that cannot stand there comes ahead of what is wrong as a whole
        faultAtMark(0, "h;h;wb2;^q");
        faultAtMark(0, "w;w;h;^y");
        faultAtMark(0, "^;");
        faultAtMark(0, "h;^;h");
        faultAtMark(0, "h;h^.");
        faultAtMark(0, "^x1;h;h");
        faultAtMark(0, "^1");
        faultAtMark(0, "h^1;h");
        faultAtMark(0, "h^h");
        faultAtMark(0, "h^w");
        faultAtMark(0, "hx1;^;h");
    }

    private static void onlySuchSigns() {
        for (int sign = 1; sign < 256; sign++) {
            char c = (char) sign;
            boolean starts = c == 's' || c == 'h' || c == 'w' || c == ' ';
            due("a belt of the sign " + sign, told("" + c).fault(0), starts ? 1 : 0);
            due("a law of the sign " + sign, told("" + c).fault(1), c == 'y' || c == ' ' ? 1 : 0);
        }
        for (int sign = 1; sign < 256; sign++) {
            char c = (char) sign;
            boolean goesOn = "xtlk; ".indexOf(c) >= 0;
            due("a house and the sign " + sign, told("h" + c).fault(0), goesOn ? 2 : 1);
            boolean inLaw = "ptlknd0123456789[!( ".indexOf(c) >= 0;
            int want = !inLaw ? 2 : "ptlknd0123456789".indexOf(c) >= 0 ? -1 : 3;
            due("y: and the sign " + sign, told("y:" + c).fault(1), want);
            boolean behind = "+-*/=<>; ".indexOf(c) >= 0;
            due("y:p and the sign " + sign, told("y:p" + c).fault(1), c == ' ' ? -1 : behind ? 4 : 3);
            boolean behindCondition = "?&|+-*/ 0123456789".indexOf(c) >= 0;
            due("y:p=1 and the sign " + sign, told("y:p=1" + c).fault(1), behindCondition ? 6 : 5);
        }
    }

    private static void fullTapes() {
        String belt = "h;hl7";
        sound(0, belt + " ".repeat(235));
        sound(0, " ".repeat(235) + belt);
        fault(0, " ".repeat(239) + "h", 240);
        fault(0, " ".repeat(236) + "h;hq", 239);
        sound(0, " ".repeat(237) + "h;h");
        // 119 signs + and 119 letters behind y: is 240 and one too many, so one digit is two
        StringBuilder law = new StringBuilder("y:");
        for (int i = 0; i < 118; i++) {
            law.append("1+");
        }
        law.append("10");
        due("a law of 240", law.length(), 240);
        CopperTies x = Check.belt("h;h;w", law.toString());
        due("118 and 10", x.keeps(0, 999, 0), 128);
        StringBuilder clauses = new StringBuilder("y:1=2?3");
        for (int i = 0; i < 28; i++) {
            clauses.append(";y:1=2?3");
        }
        clauses.append(";y:99+1");
        due("a law of 30 clauses", clauses.length(), 238);
        CopperTies y = Check.belt("h;h;w", clauses.toString());
        due("the last one", y.keeps(0, 999, 0), 100);
        StringBuilder longest = new StringBuilder(law);
        longest.setCharAt(239, '+');
        fault(1, longest.toString(), 240);
        longest.setCharAt(239, 'q');
        fault(1, longest.toString(), 239);
    }

    // ---- laws

    private static void lawNumbers() {
        String[] within = {"0", "9", "00", "99", "000", "999", "0000", "0007", "9999"};
        for (String digits : within) {
            sound(1, "y:" + digits);
            sound(1, "y:" + digits + "=" + digits + "?" + digits);
            sound(1, "y:[" + digits + "]");
        }
        String[] beyond = {"00000", "00001", "10000", "99999", "123456"};
        for (String digits : beyond) {
            fault(1, "y:" + digits, 6);
            fault(1, "y:p=" + digits, 8);
            fault(1, "y:[" + digits, 7);
        }
        faultAtMark(1, "y:1^p");
        faultAtMark(1, "y:p^1");
        faultAtMark(1, "y:1 ^2");
        Check.due("0099", Check.belt("h;h;w", "y:0099").keeps(0, 999, 0), 99);
    }

    private static void lawShapes() {
        faultAtLength(1, "");
        faultAtLength(1, "y");
        faultAtLength(1, "y:");
        faultAtLength(1, "y:p;");
        faultAtLength(1, "y:p;y");
        faultAtLength(1, "y:p+");
        faultAtLength(1, "y:p*");
        faultAtLength(1, "y:p=");
        faultAtLength(1, "y:p=1");
        faultAtLength(1, "y:p=1&");
        faultAtLength(1, "y:p=1|");
        faultAtLength(1, "y:p=1?");
        faultAtLength(1, "y:!");
        faultAtLength(1, "y:!p=1");
        faultAtLength(1, "y:(p=1)");
        faultAtLength(1, "y:(p=1");
        faultAtLength(1, "y:(");
        faultAtLength(1, "y:[");
        faultAtLength(1, "y:[p");
        faultAtMark(1, "y^y");
        faultAtMark(1, "y:^y");
        faultAtMark(1, "y:^;");
        faultAtMark(1, "^:p");
        faultAtMark(1, "y:^+p");
        faultAtMark(1, "y:^-1");
        faultAtMark(1, "y:p+^+p");
        faultAtMark(1, "y:p^?1");
        faultAtMark(1, "y:p^&1=1?1");
        faultAtMark(1, "y:p^|1=1?1");
        faultAtMark(1, "y:p=1^;y:1");
        faultAtMark(1, "y:p=1^=1?1");
        faultAtMark(1, "y:p=1?1^=1");
        faultAtMark(1, "y:p=1?1^?1");
        faultAtMark(1, "y:p=1?^(1=1)");
        faultAtMark(1, "y:p=1?^!1=1");
        faultAtMark(1, "y:p=1?^?");
        faultAtMark(1, "y:p=^?1");
        faultAtMark(1, "y:p=1+^?1");
        faultAtMark(1, "y:p=1|^?1");
        faultAtMark(1, "y:p=1&^?1");
        faultAtMark(1, "y:p=1&p^?1");
        faultAtMark(1, "y:!^?1");
        faultAtMark(1, "y:(p=1|^)?1");
        faultAtMark(1, "y:(p=1&^)?1");
        faultAtMark(1, "y:(p=^)?1");
        faultAtMark(1, "y:[p+^]");
        faultAtMark(1, "y:[p*^]");
        // behind ! or ( it has a CONDITION
        faultAtMark(1, "y:!p^;");
        faultAtMark(1, "y:!p+1^;");
        faultAtMark(1, "y:(p^)");
        faultAtMark(1, "y:(p=1)^;y:1");
        faultAtMark(1, "y:(p=1)^+1");
        faultAtMark(1, "y:(p=1)^=1?1");
        faultAtMark(1, "y:((p=1)^=1)?1");
        faultAtMark(1, "y:(p=1^?1)");
        // a CONDITION within [ is none
        faultAtMark(1, "y:[p^=1]");
        faultAtMark(1, "y:[^(p)]");
        faultAtMark(1, "y:[^!p]");
        faultAtMark(1, "y:[p^)");
        faultAtMark(1, "y:(p=1^]");
        faultAtMark(1, "y:p^]");
        faultAtMark(1, "y:p^)");
        faultAtMark(1, "y:[^]");
        faultAtMark(1, "y:(^)?1");
        sound(1, "y:!(p=1)?1");
        sound(1, "y:[p]=[1]?1");
        sound(1, "y:p=1&!(p=2|p<3)&(p>4)|[1]<2?p");
        sound(1, "y:1;y:1=1?2;y:3");
    }

    private static void lawNesting() {
        String[] opens = {"(", "[", "!"};
        String[] closes = {")", "]", ""};
        for (int sort = 0; sort < 3; sort++) {
            String core = sort == 1 ? "1" : "1=1";
            String tail = sort == 1 ? "" : "?1";
            for (int deep = 1; deep <= 9; deep++) {
                String text = "y:" + opens[sort].repeat(deep) + core + closes[sort].repeat(deep) + tail;
                // a seventh is wrong at it
                fault(1, text, deep <= 6 ? -1 : 8);
            }
        }
        // of all three sorts together
        sound(1, "y:!(!([[1]]=1))?1");
        faultAtMark(1, "y:!(!([[^[1]]]=1))?1");
        faultAtMark(1, "y:!(!(!(^!1=1)))?1");
        faultAtMark(1, "y:!(!(!(^(1=1))))?1");
        faultAtMark(1, "y:!(!(!(^[1]=1)))?1");
        // behind ? and in a later clause as ahead of it
        sound(1, "y:1=1?[[[[[[1]]]]]]");
        faultAtMark(1, "y:1=1?[[[[[[^[1]]]]]]]");
        faultAtMark(1, "y:1;y:[[[[[[^[1]]]]]]]");
        faultAtMark(1, "y:1;y:((((((^(1=1)))))))?1");
        faultAtMark(1, "y:1=1&!!!!!!^!1=1?1");
        faultAtMark(1, "y:1=1|((((((^(1=1)))))))?1");
        faultAtMark(1, "y:1+[[[[[[^[1]]]]]]]");
        faultAtMark(1, "y:1*[[[[[[^[1]]]]]]]");
        // not within one another, as many as there is room for
        sound(1, "y:[1]+[1]+[1]+[1]+[1]+[1]+[1]+[1]");
        sound(1, "y:!1=1&!1=1&!1=1&!1=1&!1=1&!1=1&!1=1&!1=1?1");
        sound(1, "y:(1=1)&(1=1)|(1=1)&(1=1)|(1=1)&(1=1)|(1=1)&(1=1)?1");
        sound(1, "y:[[[[[[1]]]]]]+[[[[[[1]]]]]]=1?[[[[[[1]]]]]];y:[[[[[[1]]]]]]");
        // right of the comparison it is as deep as left of it
        sound(1, "y:!!!!!1=[1]?1");
        faultAtMark(1, "y:!!!!!!1=^[1]?1");
        sound(1, "y:((((([1]=[1])))))?1");
        faultAtMark(1, "y:((((((^[1]=[1]))))))?1");
        faultAtMark(1, "y:((((((1=^[1]))))))?1");
        // the depth is left with the bracket
        sound(1, "y:((((((1=1))))))&[[[[[[1]]]]]]=1?1");
        sound(1, "y:!!!!!!1=1&!!!!!!1=1?1");
        // it counts six levels as such: what is worked out
        Check.due("six [", Check.belt("h;h;w", "y:[[[[[[7]]]]]]*3").keeps(0, 99, 0), 21);
        Check.due("six !", Check.belt("h;h;w", "y:!!!!!!1=1?7").keeps(0, 99, 0), 7);
        Check.due("five !", Check.belt("h;h;w", "y:!!!!!1=1?7").keeps(0, 99, 0), 0);
        Check.due("six (", Check.belt("h;h;w", "y:((((((1=1))))))?7").keeps(0, 99, 0), 7);
    }

    private static void blanksInLaws() {
        String text = "y:!(p=1)&t>[2+n]|l<k*d?p/2-1;y:7";
        for (int at = 0; at <= text.length(); at++) {
            sound(1, text.substring(0, at) + "   " + text.substring(at));
        }
        StringBuilder wide = new StringBuilder();
        for (int i = 0; i < text.length(); i++) {
            wide.append(' ').append(text.charAt(i)).append("  ");
        }
        sound(1, wide.toString());
        faultAtMark(1, "y:1 ^2");
        faultAtMark(1, "y:999 ^9");
        faultAtMark(1, "y:1= 2 ^3?1");
        faultAtLength(1, "y :  ");
        faultAtMark(1, "y:^\tp");
    }

    /** What house 0 keeps of v by the law; it has one wire, so all else goes to house 1. */
    private static void worth(String law, int v, int want) {
        CopperTies x = Check.belt("sd3;ht4l50k1;h;w", law);
        due("keeps of " + v + " by " + law, x.keeps(0, v, 0), want);
        due("the other by " + law, x.keeps(0, v, 1), v - want);
    }

    private static void lawBounds() {
        // 999,999 is told as 1000*1000-1
        String nearly = "[1000*1000-1]";
        worth("y:1000*1000-" + nearly, 99, 1);
        worth("y:1000*1000+1-" + nearly, 99, 1);
        worth("y:" + nearly + "+1-" + nearly, 99, 1);
        worth("y:" + nearly + "+2-" + nearly, 99, 1);
        worth("y:1000*1001-" + nearly, 99, 1);
        worth("y:1001*999-" + nearly, 99, 0);
        worth("y:9999*9999-" + nearly, 99, 1);
        worth("y:9999*9999*9999*9999-" + nearly, 99, 1);
        worth("y:[1000*1000]*[1000*1000]/[1000*100]", 99, 10);
        // downwards
        worth("y:0-1000*1000+1000*1000+5", 99, 5);
        worth("y:0-1000*1000-1+1000*1000+5", 99, 5);
        worth("y:0-" + nearly + "-1+1000*1000+5", 99, 5);
        worth("y:0-" + nearly + "-2+1000*1000+5", 99, 5);
        worth("y:[0-1000]*1001+1000*1000+7", 99, 7);
        worth("y:[0-1000]*1000+1000*1000+7", 99, 7);
        worth("y:[0-1000*1000]*[1000*1000]+1000*1000+7", 99, 7);
        worth("y:[0-1000*1000]*[0-1000*1000]-" + nearly, 99, 1);
        // behind each sign, not at the end alone
        worth("y:9999*9999/9999", 999, 100);
        worth("y:9999*9999-9999*9999", 99, 0);
        worth("y:9999*9999=1000*1000?3", 99, 3);
        worth("y:9999*9999>1000*1000?3;y:4", 99, 4);
        // WORTH is held within 0 .. p
        worth("y:p", 99, 99);
        worth("y:p+1", 99, 99);
        worth("y:p-1", 99, 98);
        worth("y:1000*1000", 999, 999);
        worth("y:0", 99, 0);
        worth("y:1", 99, 1);
        worth("y:0-1", 99, 0);
        worth("y:0-1000*1000", 999, 0);
        worth("y:p", 1, 1);
        worth("y:p-1", 1, 0);
    }

    private static void lawDivides() {
        worth("y:7/2", 99, 3);
        worth("y:[0-7]/2+9", 99, 6);
        worth("y:7/[0-2]+9", 99, 6);
        worth("y:[0-7]/[0-2]+9", 99, 12);
        worth("y:[0-1]/2+9", 99, 9);
        worth("y:7/0+9", 99, 9);
        worth("y:0/0+9", 99, 9);
        worth("y:[0-7]/0+9", 99, 9);
        worth("y:7/[1-1]+9", 99, 9);
        worth("y:7/0*5+9", 99, 9);
        worth("y:60/7/2", 99, 4);
        worth("y:60/7*7", 99, 56);
        worth("y:9-5-3", 99, 1);
    }

    private static void lawTruths() {
        String[] truth = {"1=2", "1=1"};
        for (int a = 0; a < 2; a++) {
            for (int b = 0; b < 2; b++) {
                String left = truth[a];
                String right = truth[b];
                holds(left + "|" + right, a + b > 0);
                holds(left + "&" + right, a + b == 2);
                holds("(" + left + "|" + right + ")", a + b > 0);
                holds("!(" + left + "&" + right + ")", a + b < 2);
                holds("!(" + left + "|" + right + ")", a + b == 0);
                holds("!" + left + "&" + right, a == 0 && b == 1);
                holds("!" + left + "|" + right, a == 0 || b == 1);
                for (int c = 0; c < 2; c++) {
                    String last = truth[c];
                    // & binds more than |
                    holds(left + "|" + right + "&" + last, a == 1 || b + c == 2);
                    holds(left + "&" + right + "|" + last, a + b == 2 || c == 1);
                    holds(left + "&(" + right + "|" + last + ")", a == 1 && b + c > 0);
                    holds(left + "|" + right + "|" + last, a + b + c > 0);
                    holds(left + "&" + right + "&" + last, a + b + c == 3);
                }
            }
        }
    }

    private static void lawNegations() {
        for (int a = 0; a < 3; a++) {
            for (int b = 0; b < 3; b++) {
                holds(a + "<" + b, a < b);
                holds(a + ">" + b, a > b);
                holds(a + "=" + b, a == b);
                holds("!" + a + "<" + b, a >= b);
                holds("!" + a + ">" + b, a <= b);
                holds("!" + a + "=" + b, a != b);
                holds("!!" + a + "<" + b, a < b);
                holds("!(" + a + ">" + b + ")", a <= b);
            }
        }
        // below 0, too
        holds("0-2<0-1", true);
        holds("0-1<0-2", false);
        holds("0-1>0", false);
        holds("0-1=1-2", true);
    }

    private static void holds(String condition, boolean is) {
        worth("y:" + condition + "?7", 99, is ? 7 : 0);
    }

    private static void lawFirstThatHolds() {
        worth("y:1=2?5", 99, 0);
        worth("y:1=2?5;y:1>2?6", 99, 0);
        worth("y:1=1?0;y:5", 99, 0);
        worth("y:1=1?0-3;y:5", 99, 0);
        worth("y:4;y:5", 99, 4);
        worth("y:1=2?5;y:6;y:1=1?7", 99, 6);
        // the edges of = < >
        worth("y:p<99?1;y:2", 99, 2);
        worth("y:p<99?1;y:2", 98, 1);
        worth("y:p>99?1;y:2", 99, 2);
        worth("y:p>99?1;y:2", 100, 1);
        worth("y:p=99?1;y:2", 99, 1);
        worth("y:p=99?1;y:2", 98, 2);
        // letters: t 4, l 50, k 1, n 1, d 3
        worth("y:t=4&l=50&k=1&n=1&d=3?1;y:2", 99, 1);
    }

    private static void lawsOneToFour() {
        CopperTies x = Check.belt("h;h;w");
        due("law(0) of none", x.law(0), false);
        for (int i = 0; i < 4; i++) {
            Check.tape(x, "y:" + (i + 1));
            due("its number", x.text(1), i);
            due("how many", x.count(2), i + 1);
            due("the next is not there", x.law(i + 1), false);
            due("it does not hold by itself", x.count(4), i - 1);
            due("law", x.law(i), true);
            due("it holds", x.keeps(0, 99, 0), i + 1);
        }
        Check.tape(x, "y:9");
        due("there are four", x.text(1), -1);
        due("four", x.count(2), 4);
        due("the tape stays", x.count(3), 3);
        due("which is a law still", x.fault(1), -1);
        for (int i = 0; i < 4; i++) {
            due("law", x.law(i), true);
            due("as it was told", x.keeps(0, 99, 0), i + 1);
        }
        due("law(4)", x.law(4), false);
        due("law(-2)", x.law(-2), false);
        due("the last one holds", x.count(4), 3);
        due("law(NONE)", x.law(-1), true);
        due("none", x.count(4), -1);
        due("p by n and 1, cut", x.keeps(0, 99, 0), 49);
        due("the rest", x.keeps(0, 99, 1), 50);
        // laws may be told ahead of a belt
        CopperTies y = new CopperTies();
        Check.tape(y, "y:5");
        due("without a belt", y.text(1), 0);
        due("it may hold", y.law(0), true);
        Check.tape(y, "h;h;w");
        y.text(0);
        due("and holds for the belt", y.keeps(0, 99, 0), 5);
    }

    /** "All that was of another one .. is gone but LAWS, which holds, STORMS, KITES, STATUS". */
    private static void aBeltInsteadOfAnother() {
        CopperTies x = Check.belt("sc50d4;hl9;hl9;h;w;wa1b2", "y:2");
        x.set(0, 9);
        x.set(1, 8);
        // 2, 2, and 95 at 2; then 2, 95 at 1; then 95 at 0
        due("2 burns", x.strike(0, 99), 4);
        x.cut(1);
        due("1 burns", x.strike(0, 99), 2);
        due("0 burns", x.strike(1, 99), 1);
        x.lay(0, 2);
        x.cut(0);
        x.summers(3);
        x.image();
        x.scorched(0, 9, 1, true);
        x.test(2, false);
        x.strike(7, 1);
        x.strike(0, 0);
        x.cut(0);
        // the same text again: as new
        Check.tape(x, "sc50d4;hl9;hl9;h;w;wa1b2");
        due("three houses", x.text(0), 3);
        int[] want = {3, 2, 1, 0, 0, 0, 50, 4, 3, 9, 8, 0, 0, 0, 0};
        for (int i = 0; i < want.length; i++) {
            due("count(" + i + ")", x.count(i), want[i]);
        }
        int[] status = {1, 1, 0, 1, 0};
        for (int i = 0; i < 5; i++) {
            due("STATUS stays", x.status(i), status[i]);
        }
        for (int h = 0; h < 3; h++) {
            due("BURNT", x.house(h, 4), 0);
            due("BEARS", x.house(h, 2), h < 2 ? 9 : 20);
        }
        due("not CUT", x.wire(0, 3), 0);
        due("SALT", x.wire(1, 2), 0);
        due("no such wire", x.wire(2, 0), -1);
        due("no image", x.back(), -1);
        due("no act", x.undo(), -1);
        due("no log", x.log(0, 0), -1);
        due("tests gone", x.stroke(), 500000);
        due("scorches gone", x.who(0, -1), 1);
        due("the law holds", x.keeps(0, 99, 0), 2);
        // of fewer houses: those that were are no more
        Check.tape(x, "h;h");
        due("two houses", x.text(0), 2);
        Check.dueThrow("house(2, 0)", x, 2, 0);
        due("no wires", x.count(1), 0);
        due("none is live", x.count(8), 0);
    }
}
