import java.util.NoSuchElementException;
import java.util.function.Supplier;
import java.util.function.ToLongFunction;

/**
 * Two objects made alike: one hears a call more, then all that can be seen of both is compared,
 * what lies behind (acts, image, laws, tape) too. So a call that changes anything is found.
 */
final class Twins {
    /** Stands for the exception of house. */
    static final long THROWN = -77;
    static final int NO_STATUS = -1;

    private Twins() {
    }

    /** The call is refused: it answers so, counts one in this STATUS (or none), changes no more. */
    static void refused(String call, Supplier<CopperTies> maker, ToLongFunction<CopperTies> heard,
            long want, int status) {
        CopperTies touched = maker.get();
        Check.due(call, heard.applyAsLong(touched), want);
        sameBut(call, maker.get(), touched, status);
    }

    /** A question answers so, and changes nothing. */
    static void asked(String call, Supplier<CopperTies> maker, ToLongFunction<CopperTies> heard,
            long want) {
        refused(call, maker, heard, want, NO_STATUS);
    }

    private static void sameBut(String call, CopperTies still, CopperTies touched, int status) {
        for (int i = 0; i < 5; i++) {
            Check.due("behind " + call + ": status(" + i + ")", touched.status(i),
                still.status(i) + (i == status ? 1 : 0));
        }
        String[] one = allSeen(still).split("\n");
        String[] other = allSeen(touched).split("\n");
        for (int i = 0; i < Math.max(one.length, other.length); i++) {
            String want = i < one.length ? one[i] : "nothing";
            String got = i < other.length ? other[i] : "nothing";
            if (!want.equals(got)) {
                Check.wrong++;
                System.out.println("behind " + call + ": " + got + ", due is " + want);
                return;
            }
        }
    }

    static long houseOf(CopperTies x, int house, int what) {
        try {
            return x.house(house, what);
        } catch (NoSuchElementException e) {
            return THROWN;
        }
    }

    /** Uses the object up: acts are undone, the image and the tape are taken. */
    private static String allSeen(CopperTies x) {
        StringBuilder seen = new StringBuilder();
        seeNow(x, seen, "now");
        seeTape(x, seen);
        seeLaws(x, seen);
        for (int i = 0; i < 41; i++) {
            int left = x.undo();
            note(seen, "undo", left);
            if (left < 0) {
                break;
            }
            if (left < 8) {
                seeShort(x, seen, "undone to " + left);
            }
        }
        int back = x.back();
        note(seen, "back", back);
        if (back >= 0) {
            seeShort(x, seen, "image");
            note(seen, "log of the image", x.log(0, 1));
        }
        note(seen, "text(0)", x.text(0));
        seeShort(x, seen, "by the tape");
        return seen.toString();
    }

    private static void note(StringBuilder seen, String what, long value) {
        seen.append(what).append(" is ").append(value).append('\n');
    }

    private static void seeNow(CopperTies x, StringBuilder seen, String when) {
        for (int i = 0; i < 15; i++) {
            note(seen, when + ": count(" + i + ")", x.count(i));
        }
        for (int h = 0; h < x.count(0); h++) {
            for (int what = 0; what < 6; what++) {
                note(seen, when + ": house(" + h + ", " + what + ")", houseOf(x, h, what));
            }
        }
        for (int w = 0; w < x.count(1); w++) {
            for (int what = 0; what < 5; what++) {
                note(seen, when + ": wire(" + w + ", " + what + ")", x.wire(w, what));
            }
        }
        for (int i = 0; i < Math.min(5, x.count(13)); i++) {
            for (int what = 0; what < 3; what++) {
                note(seen, when + ": log(" + i + ", " + what + ")", x.log(i, what));
            }
        }
        note(seen, when + ": stroke()", x.stroke());
        for (int k = 0; k < 3; k++) {
            note(seen, when + ": who(" + k + ", -1)", x.who(k, -1));
            note(seen, when + ": sure(" + k + ")", x.sure(k));
        }
    }

    private static void seeTape(CopperTies x, StringBuilder seen) {
        note(seen, "fault(0)", x.fault(0));
        note(seen, "fault(1)", x.fault(1));
    }

    private static void seeLaws(CopperTies x, StringBuilder seen) {
        for (int law = 0; law < 4; law++) {
            note(seen, "law(" + law + ")", x.law(law) ? 1 : 0);
            note(seen, "keeps by it", x.keeps(0, 60, 0));
        }
    }

    private static void seeShort(CopperTies x, StringBuilder seen, String when) {
        for (int what : new int[] {0, 1, 5, 6, 7, 8, 13, 14}) {
            note(seen, when + ": count(" + what + ")", x.count(what));
        }
        for (int h = 0; h < x.count(0); h++) {
            note(seen, when + ": bears of " + h, houseOf(x, h, 2));
            note(seen, when + ": burnt of " + h, houseOf(x, h, 4));
        }
        for (int w = 0; w < x.count(1); w++) {
            note(seen, when + ": salt of " + w, x.wire(w, 2));
            note(seen, when + ": cut of " + w, x.wire(w, 3));
        }
    }
}
