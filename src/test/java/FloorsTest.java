/** Promises 1 to 10: floors, the sea. */
public final class FloorsTest {
    public static void main(String[] args) {
        newObject();
        floor();
        toldOfSand();
        toldOfOneCell();
        toldIsRefused();
        toldOfKinds();
        as();
        turns();
        sea();
        sandAndHeap();
        deal();
        seed();
        Due.end();
    }

    private static void newObject() {
        SandRipples x = new SandRipples();
        int[] counts = {0, 3, 2, 5, 4, 0, 0, 0, 1};
        for (int what = 0; what < counts.length; what++) {
            Due.is("count(" + what + ") of a new object", counts[what], x.count(what));
        }
        Due.is("told(0, 0) without floors", Due.BAD, x.told(0, 0));
        Due.is("back() without an image", Due.NO, x.back());
        for (int key = 0; key < 3; key++) {
            Due.is("why(" + key + ") without texts", Due.NONE, x.why(key));
        }
        for (int i = 0; i < 4; i++) {
            Due.is("mark on a missing sheet", Due.NOTHING, x.mark(i, 0, 0));
        }
        for (int i = 0; i < 5; i++) {
            Due.is("rest of an empty slot", Due.NOTHING, x.rest(i, 1));
        }
    }

    private static void floor() {
        SandRipples x = new SandRipples();
        for (int kind : new int[] {-1, 6, Integer.MIN_VALUE, Integer.MAX_VALUE}) {
            Due.is("floor(" + kind + ")", Due.BAD, x.floor(kind));
        }
        for (int kind = 0; kind < 6; kind++) {
            Due.is("floor(" + kind + ")", kind, x.floor(kind));
            Due.is("kind", kind, x.told(kind, 0));
            Due.is("tick", 0, x.told(kind, 1));
            Due.sandIs("a new floor", x, kind, 20);
        }
        Due.is("a seventh floor", Due.FULL, x.floor(0));
        Due.is("a seventh floor of no kind", Due.BAD, x.floor(6));
        Due.is("floors", 6, x.count(0));
    }

    private static void toldOfSand() {
        SandRipples x = new SandRipples();
        x.floor(0);
        Due.heaps(x, 0, 1, 2, 3, 3, 0, 0, 7, 5);
        Due.is("all sand", 3 * 21, x.told(0, 2));
        Due.is("the greatest", 7, x.told(0, 3));
        Due.is("the least", 0, x.told(0, 4));
        // Of eight: 3 behind 2 with 3 next to it is a crest, the second 3 is none; 7 is one.
        Due.is("crests", 6, x.told(0, 5));
        // Rises 1<2, 2<3, 0<7; falls 3>0, 7>5, 5>1.
        Due.is("lean", 0, x.told(0, 6));
        Due.is("marks without a text", 3 * 10, x.told(0, 10));
        Due.heaps(x, 0, 0, 1, 2, 3);
        Due.is("lean of slow rises", 18 - 6, x.told(0, 6));
        Due.heaps(x, 0, 3, 2, 1, 0);
        Due.is("lean of slow falls", 6 - 18, x.told(0, 6));
    }

    private static void toldOfOneCell() {
        for (int c = 0; c < 24; c++) {
            SandRipples x = new SandRipples();
            x.floor(0);
            Due.heaps(x, 0, 50);
            x.heap(0, c, 51);
            Due.is("the greatest on cell " + c, 51, x.told(0, 3));
            Due.is("a crest on cell " + c, 1, x.told(0, 5));
            Due.is("its mark", 51, x.told(0, 10));
            x.heap(0, c, 49);
            Due.is("the least on cell " + c, 49, x.told(0, 4));
        }
    }

    private static void toldIsRefused() {
        SandRipples x = new SandRipples();
        x.floor(0);
        for (int what : new int[] {-1, 11, Integer.MIN_VALUE, Integer.MAX_VALUE}) {
            Due.is("told(0, " + what + ")", Due.BAD, x.told(0, what));
        }
        Due.is("told(1, 0)", Due.BAD, x.told(1, 0));
        Due.is("told(-1, 0)", Due.BAD, x.told(-1, 0));
    }

    private static void toldOfKinds() {
        SandRipples x = new SandRipples();
        x.floor(0);
        Due.heaps(x, 0, 1, 2, 3, 9);
        int[] worths = {8, 14, 12, 28, 22, 3};
        int[][] reaches = {{0, 0, 1, 0, 0, 0}, {1, 0, 2, 0, 1, 1}, {5, 3, 6, 2, 3, 5}, {11, 7, 12, 6, 6, 11}};
        for (int kind = 0; kind < 6; kind++) {
            x.turns(0, kind);
            Due.is("worth of kind " + kind, worths[kind], x.told(0, 7));
            Due.is("way of kind " + kind, 1, x.told(0, 9));
            for (int[] reach : reaches) {
                x.sea(0, reach[0]);
                Due.is("reach of kind " + kind + ", far " + reach[0], reach[kind], x.told(0, 8));
            }
        }
        x.sea(0, 4);
        x.run(0, 1);
        int[] oddReaches = {4, 2, 5, 1, 2, 5};
        int[] oddWays = {-1, -1, 1, -1, 1, -1};
        for (int kind = 0; kind < 6; kind++) {
            x.turns(0, kind);
            Due.is("reach of kind " + kind + ", an odd tick", oddReaches[kind], x.told(0, 8));
            Due.is("way of kind " + kind + ", an odd tick", oddWays[kind], x.told(0, 9));
        }
    }

    private static void as() {
        boolean[][] is = {
            {true, false, false, false, false, false},
            {true, true, false, false, false, false},
            {true, false, true, false, false, false},
            {true, true, false, true, false, false},
            {true, false, true, false, true, false},
            {true, false, false, false, false, true}};
        SandRipples x = new SandRipples();
        for (int of = 0; of < 6; of++) {
            x.floor(of);
            x.run(of, of + 1);
            for (int kind = 0; kind < 6; kind++) {
                Due.is("as(" + of + ", " + kind + ")", is[of][kind] ? of + 1 : Due.KIND, x.as(of, kind));
            }
        }
        Due.is("as(6, 0)", Due.BAD, x.as(6, 0));
        Due.is("as(-1, 0)", Due.BAD, x.as(-1, 0));
        Due.is("as(0, 6)", Due.BAD, x.as(0, 6));
        Due.is("as(0, -1)", Due.BAD, x.as(0, -1));
    }

    private static void turns() {
        SandRipples x = new SandRipples();
        x.floor(2);
        x.run(0, 3);
        int all = x.told(0, 2);
        Due.is("turns(0, 5)", 2, x.turns(0, 5));
        Due.is("turns(0, 5)", 5, x.turns(0, 5));
        Due.is("turns(0, 6)", Due.BAD, x.turns(0, 6));
        Due.is("turns(0, -1)", Due.BAD, x.turns(0, -1));
        Due.is("turns(1, 0)", Due.BAD, x.turns(1, 0));
        Due.is("turns(-1, 0)", Due.BAD, x.turns(-1, 0));
        Due.is("kind", 5, x.told(0, 0));
        Due.is("tick", 3, x.told(0, 1));
        Due.is("all sand", all, x.told(0, 2));
    }

    private static void sea() {
        SandRipples x = new SandRipples();
        int[] first = {3, 2, 5, 4};
        int[] least = {0, 0, 0, 1};
        int[] most = {11, 9, 11, 20};
        for (int what = 0; what < 4; what++) {
            Due.is("sea, the most", first[what], x.sea(what, most[what]));
            Due.is("sea, above the most", Due.BAD, x.sea(what, most[what] + 1));
            Due.is("sea, the least", most[what], x.sea(what, least[what]));
            Due.is("sea, below the least", Due.BAD, x.sea(what, least[what] - 1));
            Due.is("count", least[what], x.count(what + 1));
            for (int v : Due.EXTREMES) {
                Due.is("sea(" + what + ", " + v + ")", Due.BAD, x.sea(what, v));
                Due.is("sea(" + v + ", 1)", Due.BAD, x.sea(v, 1));
            }
        }
        Due.is("sea(4, 1)", Due.BAD, x.sea(4, 1));
    }

    private static void sandAndHeap() {
        SandRipples x = new SandRipples();
        x.floor(0);
        x.floor(1);
        Due.is("heap(0, 0, 99)", 20, x.heap(0, 0, 99));
        Due.is("heap(0, 23, 0)", 20, x.heap(0, 23, 0));
        Due.is("heap(0, 0, 5)", 99, x.heap(0, 0, 5));
        Due.is("heap(0, 0, 100)", Due.BAD, x.heap(0, 0, 100));
        Due.is("heap(0, 0, -1)", Due.BAD, x.heap(0, 0, -1));
        Due.is("sand(0, 0)", 5, x.sand(0, 0));
        Due.is("sand(0, 23)", 0, x.sand(0, 23));
        Due.is("sand(1, 0)", 20, x.sand(1, 0));
        for (int v : new int[] {-1, 24, Integer.MIN_VALUE, Integer.MAX_VALUE}) {
            Due.is("sand(0, " + v + ")", Due.BAD, x.sand(0, v));
            Due.is("sand(" + v + ", 0)", Due.BAD, x.sand(v, 0));
            Due.is("heap(0, " + v + ", 1)", Due.BAD, x.heap(0, v, 1));
            Due.is("heap(" + v + ", 0, 1)", Due.BAD, x.heap(v, 0, 1));
        }
        Due.is("sand(2, 0)", Due.BAD, x.sand(2, 0));
    }

    private static void deal() {
        SandRipples x = new SandRipples();
        x.floor(0);
        Due.is("deal(1)", Due.BAD, x.deal(1));
        Due.is("deal(-1)", Due.BAD, x.deal(-1));
        Due.is("z of a deal that is refused", 1, x.count(8));
        x.seed(-77);
        int z = -77;
        int all = 0;
        int[] drawn = new int[24];
        for (int c = 0; c < 24; c++) {
            z = z * 1103515245 + 12345;
            drawn[c] = (z >>> 8) % 40;
            all += drawn[c];
        }
        Due.is("deal(0)", all, x.deal(0));
        Due.sandIs("deal", x, 0, drawn);
        Due.is("z", z, x.count(8));
        Due.is("tick", 0, x.told(0, 1));
    }

    private static void seed() {
        SandRipples x = new SandRipples();
        Due.is("seed(MIN)", 1, x.seed(Integer.MIN_VALUE));
        Due.is("seed(MAX)", Integer.MIN_VALUE, x.seed(Integer.MAX_VALUE));
        Due.is("seed(0)", Integer.MAX_VALUE, x.seed(0));
        Due.is("z", 0, x.count(8));
    }
}
