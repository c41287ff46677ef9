import java.util.NoSuchElementException;

/** What the tests with answers worked out by hand have in common. */
abstract class Checks {
    static final int NONE = -1;
    /** Numbers that are none of a point, a place, a set, or of what can be asked. */
    static final int[] ODD = {
        Integer.MIN_VALUE, Integer.MIN_VALUE + 1, -4096, -33, -32, -13, -12, -2, -1, 12, 13, 24, 31, 32, 33, 63, 64, 1 << 16, Integer.MAX_VALUE
    };
    private static int wrong;
    private static String promise = "";

    static void due(String what, long got, long want) {
        if (got != want) {
            wrong++;
            System.out.println(promise + ": " + what + " answered " + got + ", due is " + want);
        }
    }

    static void yes(String what, boolean got) {
        due(what, got ? 1 : 0, 1);
    }

    static void no(String what, boolean got) {
        due(what, got ? 1 : 0, 0);
    }

    /** Names what the answers from here on belong to. */
    static void promise(String name) {
        promise = name;
    }

    static void finish() {
        System.out.println(wrong == 0 ? "all answers are as due" : wrong + " answers are not as due");
        System.exit(wrong == 0 ? 0 : 1);
    }

    // ---- texts

    static void feed(RingCutters x, String text) {
        int ahead = x.now(7);
        for (int i = 0; i < text.length(); i += 20) {
            int[] five = new int[5];
            for (int k = 0; k < 20 && i + k < text.length(); k++) {
                five[k / 4] |= (text.charAt(i + k) & 255) << 24 - 8 * (k % 4);
            }
            x.feed(five[0], five[1], five[2], five[3], five[4]);
        }
        yes("end of a text", x.end(ahead + text.length()));
    }

    static RingCutters told(String text) {
        RingCutters x = new RingCutters();
        tell(x, text);
        due("fault of " + text, x.fault(), 0);
        return x;
    }

    static int tell(RingCutters x, String text) {
        feed(x, text);
        return x.net();
    }

    static void fault(String text, int kind, int place) {
        RingCutters x = told("point keep 7;");
        due("net of " + text, tell(x, text), -1 - place);
        due("fault of " + text, x.fault(), kind);
        due("net kept by " + text, x.now(5), 7);
        due("tape behind " + text, x.now(7), 0);
    }

    static void right(String text, int rows) {
        RingCutters x = told("point keep 7;");
        due("net of " + text, tell(x, text), rows);
        due("fault of " + text, x.fault(), 0);
    }

    static String times(int n, String text) {
        return text.repeat(n);
    }

    static String points(int n) {
        StringBuilder b = new StringBuilder();
        for (int p = 0; p < n; p++) {
            b.append("point ").append((char) ('a' + p)).append(';');
        }
        return b.toString();
    }

    static String lines(String pairs) {
        StringBuilder b = new StringBuilder();
        for (String pair : pairs.split(" ")) {
            b.append("line ").append(pair.charAt(0)).append(' ').append(pair.charAt(1)).append(';');
        }
        return b.toString();
    }

    static final String TRIANGLE = "point a 2;point b;point c 3;" + lines("ab bc ca");
    static final String FOUR = "ab ac ad bc bd cd";

    static boolean pointThrows(RingCutters x, int p, int what) {
        try {
            x.point(p, what);
            return false;
        } catch (NoSuchElementException e) {
            return true;
        }
    }

    static boolean boundThrows(RingCutters x, int what) {
        try {
            x.bound(what);
            return false;
        } catch (NoSuchElementException e) {
            return true;
        }
    }

    static void bound(RingCutters x, long above, long below) {
        due("bound above", x.bound(0), above);
        due("bound below", x.bound(1), below);
    }

    /** All that a call may change, but for what was kept by image and for the acts themselves. */
    static String stateOf(RingCutters x, int points) {
        StringBuilder b = new StringBuilder();
        for (int what = 0; what <= 7; what++) {
            b.append(x.now(what)).append(' ');
        }
        b.append(x.fault());
        for (int p = 0; p < points; p++) {
            b.append('\n').append(pointThrows(x, p, 0) ? "gone" : x.point(p, 0));
            for (int q = 0; q < points; q++) {
                b.append(' ').append(x.lines(p, q));
            }
        }
        return b.toString();
    }
}
