/** Promises 30 to 38: sheets, slots. */
public final class SheetsTest {
    public static void main(String[] args) {
        sheet();
        mark();
        pour();
        reads();
        copy();
        copyIsRefused();
        lay();
        ask();
        item();
        rest();
        Due.end();
    }

    /** What a place of a sheet holds, by way of the last slot. */
    private static int place(SandRipples x, int sheet, int place) {
        x.lay(4, 2, sheet);
        return x.item(4, place);
    }

    private static void sheet() {
        SandRipples x = new SandRipples();
        Due.is("sheet(0, 0, 24)", 24, x.sheet(0, 0, 24));
        Due.is("sheet(3, 1, 0)", 0, x.sheet(3, 1, 0));
        Due.is("sheet(0, 0, 25)", Due.BAD, x.sheet(0, 0, 25));
        Due.is("sheet(0, 0, -1)", Due.SIZE, x.sheet(0, 0, -1));
        Due.is("sheet(0, 1, MIN)", Due.SIZE, x.sheet(0, 1, Integer.MIN_VALUE));
        Due.is("sheet(0, 2, -1)", Due.BAD, x.sheet(0, 2, -1));
        Due.is("sheet(0, -2, 1)", Due.BAD, x.sheet(0, -2, 1));
        Due.is("sheet(4, 0, -1)", Due.BAD, x.sheet(4, 0, -1));
        Due.is("sheet(-1, -1, 0)", Due.BAD, x.sheet(-1, -1, 0));
        Due.is("the last place", 1, x.mark(0, 23, 5));
        Due.is("no place", Due.INDEX, x.mark(3, 0, 5));
        x.mark(0, 0, 5);
        x.sheet(0, 0, 24);
        Due.is("all are 0 again", 0, place(x, 0, 0));
        Due.is("all are 0 again", 0, place(x, 0, 23));
        x.sheet(0, 1, 3);
        x.mark(0, 1, Due.NONE);
        x.sheet(0, 1, 3);
        Due.is("all are 0 again", 0, place(x, 0, 1));
        for (int n : new int[] {0, 24, 25, -1, Integer.MIN_VALUE, Integer.MAX_VALUE}) {
            Due.is("sheet(0, -1, " + n + ")", 0, x.sheet(0, -1, n));
            Due.is("it is missing", Due.NOTHING, x.mark(0, 0, 0));
        }
        Due.is("sheet(0, 1, 2)", 2, x.sheet(0, 1, 2));
        Due.is("it is there", 1, x.mark(0, 1, 0));
    }

    private static void mark() {
        SandRipples x = new SandRipples();
        x.sheet(0, 0, 4);
        x.sheet(1, 1, 4);
        Due.is("mark(4, 0, 0)", Due.BAD, x.mark(4, 0, 0));
        Due.is("mark(-1, 0, 0)", Due.BAD, x.mark(-1, 0, 0));
        Due.is("mark(2, 9, NONE)", Due.NOTHING, x.mark(2, 9, Due.NONE));
        Due.is("mark(0, 4, NONE)", Due.INDEX, x.mark(0, 4, Due.NONE));
        Due.is("mark(0, -1, 0)", Due.INDEX, x.mark(0, -1, 0));
        Due.is("mark(1, 4, 100000)", Due.INDEX, x.mark(1, 4, 100000));
        Due.is("mark(1, MAX, 0)", Due.INDEX, x.mark(1, Integer.MAX_VALUE, 0));
        Due.is("mark(0, 0, NONE)", Due.KIND, x.mark(0, 0, Due.NONE));
        int[] given = {32767, 32768, 65535, 65536, -32768, -32769, Integer.MIN_VALUE, Integer.MAX_VALUE, 100000, 7};
        for (int v : given) {
            Due.is("mark(0, 3, " + v + ")", 1, x.mark(0, 3, v));
            Due.is("shorts hold of " + v, (short) v, place(x, 0, 3));
        }
        for (int v : new int[] {99999, -99999, 0, 7}) {
            Due.is("mark(1, 3, " + v + ")", 1, x.mark(1, 3, v));
            Due.is("floats hold", v, place(x, 1, 3));
        }
        for (int v : new int[] {100000, -100000, Integer.MIN_VALUE, Integer.MAX_VALUE, Due.NONE - 1}) {
            Due.is("mark(1, 3, " + v + ")", Due.BAD, x.mark(1, 3, v));
        }
        Due.is("what is refused changes nothing", 7, place(x, 1, 3));
        Due.is("mark(1, 3, NONE)", 1, x.mark(1, 3, Due.NONE));
        Due.is("no number", Due.KIND, place(x, 1, 3));
        Due.is("mark(1, 3, 2)", 1, x.mark(1, 3, 2));
        Due.is("a number again", 2, place(x, 1, 3));
    }

    private static void pour() {
        SandRipples x = new SandRipples();
        Due.is("pour without floors", Due.BAD, x.pour(0, 0));
        x.floor(0);
        Due.is("pour of a missing sheet", Due.NOTHING, x.pour(0, 0));
        x.sheet(0, 1, 6);
        int[] v = {99999, -99999, Due.NONE, 20, 100, 7};
        for (int i = 0; i < v.length; i++) {
            x.mark(0, i, v[i]);
        }
        Due.is("pour(0, 0)", 4, x.pour(0, 0));
        int[] due = {99, 0, 20, 20, 99, 7, 20};
        for (int c = 0; c < due.length; c++) {
            Due.is("sand(0, " + c + ")", due[c], x.sand(0, c));
        }
        Due.is("beyond the sheet", 20, x.sand(0, 23));
        Due.is("once more", 0, x.pour(0, 0));
        x.sheet(1, 0, 24);
        x.mark(1, 0, -32768);
        x.mark(1, 1, 32767);
        Due.is("pour(1, 0)", 24, x.pour(1, 0));
        Due.is("sand(0, 0)", 0, x.sand(0, 0));
        Due.is("sand(0, 1)", 99, x.sand(0, 1));
        Due.is("sand(0, 23)", 0, x.sand(0, 23));
        x.sheet(2, 0, 0);
        Due.is("pour of no places", 0, x.pour(2, 0));
        Due.is("tick", 0, x.told(0, 1));
        Due.is("pour(4, 0)", Due.BAD, x.pour(4, 0));
        Due.is("pour(-1, 0)", Due.BAD, x.pour(-1, 0));
        Due.is("pour(0, 1)", Due.BAD, x.pour(0, 1));
        Due.is("pour(3, 1)", Due.BAD, x.pour(3, 1));
        Due.is("pour(0, -1)", Due.BAD, x.pour(0, -1));
    }

    private static void reads() {
        SandRipples x = new SandRipples();
        x.floor(0);
        Due.is("reads of a missing sheet", Due.NOTHING, x.reads(3, 0));
        x.sheet(3, 1, 24);
        Due.is("reads(3, 0)", 0, x.reads(3, 0));
        for (int c = 0; c < 24; c++) {
            x.mark(3, c, 20);
        }
        Due.is("reads(3, 0)", Due.NONE, x.reads(3, 0));
        x.mark(3, 23, 21);
        Due.is("reads(3, 0)", 23, x.reads(3, 0));
        x.mark(3, 4, 19);
        Due.is("reads(3, 0)", 4, x.reads(3, 0));
        x.mark(3, 4, Due.NONE);
        x.mark(3, 23, Due.NONE);
        Due.is("reads(3, 0)", Due.NONE, x.reads(3, 0));
        x.sheet(2, 0, 0);
        Due.is("reads of no places", Due.NONE, x.reads(2, 0));
        x.heap(0, 0, 99);
        x.sheet(1, 0, 1);
        x.mark(1, 0, 65536 + 99);
        Due.is("reads(1, 0)", Due.NONE, x.reads(1, 0));
        Due.is("reads(4, 0)", Due.BAD, x.reads(4, 0));
        Due.is("reads(-1, 0)", Due.BAD, x.reads(-1, 0));
        Due.is("reads(1, 1)", Due.BAD, x.reads(1, 1));
        Due.is("reads(0, -1)", Due.BAD, x.reads(0, -1));
    }

    private static void copy() {
        SandRipples x = new SandRipples();
        x.sheet(0, 1, 6);
        x.sheet(1, 1, 4);
        for (int i = 0; i < 6; i++) {
            x.mark(0, i, i == 2 ? Due.NONE : 10 + i);
        }
        Due.is("copy(0, 1, 1, 0, 3)", 3, x.copy(0, 1, 1, 0, 3));
        int[] due = {11, Due.KIND, 13, 0};
        for (int i = 0; i < 4; i++) {
            Due.is("place " + i, due[i], place(x, 1, i));
        }
        Due.is("to the right within one sheet", 5, x.copy(0, 0, 0, 1, 5));
        int[] right = {10, 10, 11, Due.KIND, 13, 14};
        for (int i = 0; i < 6; i++) {
            Due.is("place " + i, right[i], place(x, 0, i));
        }
        Due.is("to the left within one sheet", 4, x.copy(0, 2, 0, 0, 4));
        int[] left = {11, Due.KIND, 13, 14, 13, 14};
        for (int i = 0; i < 6; i++) {
            Due.is("place " + i, left[i], place(x, 0, i));
        }
        Due.is("none, at both ends", 0, x.copy(0, 6, 1, 4, 0));
        Due.is("all", 4, x.copy(0, 2, 1, 0, 4));
    }

    private static void copyIsRefused() {
        SandRipples x = new SandRipples();
        x.sheet(0, 0, 6);
        x.sheet(1, 0, 4);
        x.sheet(2, 1, 4);
        for (int v : new int[] {-1, 4, Integer.MIN_VALUE, Integer.MAX_VALUE}) {
            Due.is("copy from " + v, Due.BAD, x.copy(v, 0, 3, 0, 1));
            Due.is("copy to " + v, Due.BAD, x.copy(3, 0, v, 0, 1));
        }
        Due.is("from a missing one", Due.NOTHING, x.copy(3, 9, 0, 9, 9));
        Due.is("to a missing one", Due.NOTHING, x.copy(2, 9, 3, 9, 9));
        Due.is("another sort", Due.KIND, x.copy(2, 9, 0, 9, 9));
        int[][] wrong = {
            {0, 0, 5}, {3, 0, 4}, {0, 1, 4}, {6, 0, 1}, {0, 4, 1}, {-1, 0, 1}, {0, -1, 1}, {7, 0, 0}, {0, 5, 0},
            {-1, 0, 0}, {0, 0, -1}, {1, 1, -1}, {Integer.MAX_VALUE, 0, 1}, {0, Integer.MAX_VALUE, 1},
            {1, 1, Integer.MAX_VALUE}, {Integer.MIN_VALUE, 0, Integer.MIN_VALUE}, {0, 0, Integer.MIN_VALUE}};
        for (int[] w : wrong) {
            Due.is("copy(0, " + w[0] + ", 1, " + w[1] + ", " + w[2] + ")", Due.INDEX, x.copy(0, w[0], 1, w[1], w[2]));
        }
    }

    private static void lay() {
        SandRipples x = new SandRipples();
        x.floor(0);
        x.sheet(1, 0, 2);
        Due.is("lay(0, 3, MIN)", 0, x.lay(0, 3, Integer.MIN_VALUE));
        Due.is("lay(0, 1, 0)", 3, x.lay(0, 1, 0));
        Due.is("lay(0, 2, 1)", 1, x.lay(0, 2, 1));
        Due.is("lay(0, 2, 0)", Due.NOTHING, x.lay(0, 2, 0));
        Due.is("lay(0, 0, MIN)", 2, x.lay(0, 0, Integer.MIN_VALUE));
        Due.is("lay(0, 0, 0)", 0, x.lay(0, 0, 0));
        Due.is("lay(4, 3, 5)", 0, x.lay(4, 3, 5));
        for (int v : new int[] {-1, 5, Integer.MIN_VALUE, Integer.MAX_VALUE}) {
            Due.is("lay(" + v + ", 0, 0)", Due.BAD, x.lay(v, 0, 0));
            Due.is("lay(" + v + ", 2, 0)", Due.BAD, x.lay(v, 2, 0));
            Due.is("lay(0, " + v + ", 0)", Due.BAD, x.lay(0, v, 0));
            Due.is("lay(0, 1, " + v + ")", Due.BAD, x.lay(0, 1, v));
            Due.is("lay(0, 2, " + v + ")", Due.BAD, x.lay(0, 2, v));
        }
        Due.is("lay(0, 4, 0)", Due.BAD, x.lay(0, 4, 0));
        Due.is("lay(0, 1, 1)", Due.BAD, x.lay(0, 1, 1));
        Due.is("lay(0, 2, 4)", Due.BAD, x.lay(0, 2, 4));
        Due.is("what is refused changes nothing", 0, x.lay(0, 0, 0));
        laidThingsStay();
    }

    private static void laidThingsStay() {
        SandRipples x = new SandRipples();
        x.floor(1);
        x.heap(0, 0, 99);
        x.keep();
        x.sheet(1, 1, 2);
        x.mark(1, 0, 44);
        x.lay(0, 1, 0);
        x.lay(1, 2, 1);
        x.lay(2, 1, 0);
        x.heap(0, 0, 20);
        x.turns(0, 5);
        x.mark(1, 0, 45);
        Due.is("the floor as it was", 80, x.ask(0, 1));
        Due.is("the sheet as it was", 44, x.item(1, 0));
        x.sheet(1, -1, 0);
        Due.is("the sheet though it is missing", 44, x.item(1, 0));
        x.lay(0, 1, 0);
        Due.is("the floor as it is", Due.KIND, x.ask(0, 1));
        Due.is("another slot's floor", 80, x.ask(2, 0));
        x.back();
        Due.is("slots are not of the image", 20, x.ask(0, 5));
    }

    private static void ask() {
        SandRipples x = new SandRipples();
        x.floor(0);
        Due.heaps(x, 0, 1, 2, 3, 9);
        int[] worths = {8, 14, 12, 28, 22, 3};
        int[] above = {-1, 0, 0, 1, 2, 0};
        for (int of = 0; of < 6; of++) {
            x.turns(0, of);
            x.lay(1, 1, 0);
            for (int kind = 0; kind < 6; kind++) {
                boolean is = of == kind || above[of] == kind || kind == 0;
                Due.is("ask of kind " + of + " for " + kind, is ? worths[of] : Due.KIND, x.ask(1, kind));
            }
        }
        Due.is("ask of nothing", Due.NOTHING, x.ask(0, 0));
        x.lay(0, 3, 0);
        Due.is("ask of a number", Due.KIND, x.ask(0, 0));
        x.sheet(0, 0, 1);
        x.lay(0, 2, 0);
        Due.is("ask of a sheet", Due.KIND, x.ask(0, 0));
        for (int v : new int[] {-1, 6, Integer.MIN_VALUE, Integer.MAX_VALUE}) {
            Due.is("ask(" + v + ", 0)", Due.BAD, x.ask(v, 0));
            Due.is("ask(4, " + v + ")", Due.BAD, x.ask(4, v));
        }
        Due.is("ask(5, 0)", Due.BAD, x.ask(5, 0));
    }

    private static void item() {
        SandRipples x = new SandRipples();
        x.floor(0);
        x.sheet(0, 1, 2);
        x.mark(0, 0, -99999);
        x.mark(0, 1, Due.NONE);
        x.lay(0, 2, 0);
        x.lay(1, 3, 7);
        x.lay(2, 1, 0);
        Due.is("item(0, 0)", -99999, x.item(0, 0));
        Due.is("item(0, 1)", Due.KIND, x.item(0, 1));
        for (int v : new int[] {-1, 2, 24, Integer.MIN_VALUE, Integer.MAX_VALUE}) {
            Due.is("item(0, " + v + ")", Due.INDEX, x.item(0, v));
            Due.is("item(1, " + v + ")", Due.KIND, x.item(1, v));
            Due.is("item(2, " + v + ")", Due.KIND, x.item(2, v));
            Due.is("item(3, " + v + ")", Due.NOTHING, x.item(3, v));
            Due.is("item(5, " + v + ")", Due.BAD, x.item(5, v));
            Due.is("item(-1, " + v + ")", Due.BAD, x.item(-1, v));
        }
    }

    private static void rest() {
        SandRipples x = new SandRipples();
        x.floor(0);
        x.sheet(0, 0, 1);
        int[][] all = {
            {11, 4, 3}, {-11, 4, -3}, {11, -4, 3}, {-11, -4, -3}, {0, 5, 0}, {Integer.MIN_VALUE, -1, 0}, {7, 1, 0},
            {Integer.MIN_VALUE, Integer.MAX_VALUE, -1}, {5, Integer.MIN_VALUE, 5}, {5, 0, Due.NO}, {0, 0, Due.NO}};
        for (int[] a : all) {
            x.lay(4, 3, a[0]);
            Due.is("rest of " + a[0] + " by " + a[1], a[2], x.rest(4, a[1]));
        }
        Due.is("rest of nothing", Due.NOTHING, x.rest(0, 0));
        x.lay(0, 1, 0);
        Due.is("rest of a floor", Due.KIND, x.rest(0, 0));
        x.lay(0, 2, 0);
        Due.is("rest of a sheet", Due.KIND, x.rest(0, 0));
        for (int v : new int[] {-1, 5, Integer.MIN_VALUE, Integer.MAX_VALUE}) {
            Due.is("rest(" + v + ", 0)", Due.BAD, x.rest(v, 0));
        }
    }
}
