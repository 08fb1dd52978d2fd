import java.nio.charset.StandardCharsets;
import java.util.NoSuchElementException;

/** What the tests share: telling wrong answers, and feeding texts. */
final class Check {
    static int wrong = 0;

    private Check() {
    }

    static void due(String call, long got, long want) {
        if (got != want) {
            wrong++;
            System.out.println(call + " answered " + got + ", due is " + want);
        }
    }

    static void due(String call, boolean got, boolean want) {
        due(call, got ? 1 : 0, want ? 1 : 0);
    }

    static void dueThrow(String call, CopperTies x, int house, int what) {
        try {
            long got = x.house(house, what);
            wrong++;
            System.out.println(call + " answered " + got + ", due is NoSuchElementException");
        } catch (NoSuchElementException e) {
            return;
        }
    }

    static void finish() {
        System.out.println(wrong == 0 ? "all answers are as due" : wrong + " answers are not as due");
        if (wrong != 0) {
            System.exit(1);
        }
    }

    /** Feeds a text, twenty bytes a call; answers what the last call did. */
    static int tape(CopperTies x, String text) {
        byte[] bytes = text.getBytes(StandardCharsets.ISO_8859_1);
        int[] five = new int[5];
        int answer = x.count(3);
        for (int start = 0; start < bytes.length; start += 20) {
            for (int i = 0; i < 5; i++) {
                five[i] = 0;
                for (int j = 0; j < 4; j++) {
                    int at = start + 4 * i + j;
                    five[i] = five[i] << 8 | (at < bytes.length ? bytes[at] & 255 : 0);
                }
            }
            answer = x.feed(five[0], five[1], five[2], five[3], five[4]);
        }
        return answer;
    }

    static CopperTies belt(String text) {
        CopperTies x = new CopperTies();
        tape(x, text);
        if (x.text(0) < 2) {
            wrong++;
            System.out.println("no belt by " + text);
        }
        return x;
    }

    static CopperTies belt(String text, String law) {
        CopperTies x = belt(text);
        tape(x, law);
        int number = x.text(1);
        if (number < 0 || !x.law(number)) {
            wrong++;
            System.out.println("no law by " + law);
        }
        return x;
    }
}
