/** Counts the answers that are not as due, tells them, and ends the test with exit code 1 if there was one. */
final class Due {
    static final int BAD = -1000000001, NO = -1000000002, FULL = -1000000003, NONE = -1000000005;
    static final int NOTHING = -1000000011, KIND = -1000000012, INDEX = -1000000013, SIZE = -1000000014;
    static final int[] EXTREMES = {Integer.MIN_VALUE, -1000000, -1, Integer.MAX_VALUE, 1000000};

    private static int wrong = 0;
    private static String sentence = "";

    private Due() {
    }

    /** What follows tests this sentence of the document: a wrong answer is told with it. */
    static void sentence(String words) {
        sentence = "  [" + words + "]";
    }

    static void is(String what, long want, long got) {
        if (got != want) {
            wrong++;
            System.out.println(what + " answered " + got + ", due is " + want + sentence);
        }
    }

    static void holds(String what, boolean it) {
        if (!it) {
            wrong++;
            System.out.println(what + " does not hold" + sentence);
        }
    }

    static void end() {
        if (wrong != 0) {
            System.out.println(wrong + " answers are not as due");
            System.exit(1);
        }
    }

    static boolean failed() {
        return wrong != 0;
    }

    /** The tape becomes these characters, a byte each. */
    static void tape(SandRipples x, String s) {
        x.trim(0);
        for (int i = 0; i < s.length(); i += 12) {
            x.feed(four(s, i), four(s, i + 4), four(s, i + 8));
        }
        is("trim(" + s.length() + ")", s.length(), x.trim(s.length()));
    }

    static int text(SandRipples x, String s) {
        tape(x, s);
        return x.text();
    }

    private static int four(String s, int from) {
        int v = 0;
        for (int i = from; i < from + 4; i++) {
            v = v << 8 | (i < s.length() ? s.charAt(i) & 255 : 0);
        }
        return v;
    }

    /** The sand of a floor becomes these numbers, one or two for a cell, repeated round the ring. */
    static void heaps(SandRipples x, int floor, int... sand) {
        for (int c = 0; c < 24; c++) {
            x.heap(floor, c, sand[c % sand.length]);
        }
    }

    static void sandIs(String what, SandRipples x, int floor, int... sand) {
        for (int c = 0; c < 24; c++) {
            is(what + ", sand of cell " + c, sand[c % sand.length], x.sand(floor, c));
        }
    }
}
