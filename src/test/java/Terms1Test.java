/** Terms, part 1: cells, floors, kinds, the sea; REACH, WAY, LIFT, WORTH. A sentence of the document each. */
public final class Terms1Test {
    private static final int[] OFF = {-1, 24, 25, Integer.MIN_VALUE, Integer.MAX_VALUE};

    public static void main(String[] args) {
        cells();
        ring();
        sixFloors();
        floorsAtFirst();
        kinds();
        kindsUnderOneAnother();
        seaAtFirst();
        seaBounds();
        reachByFar();
        reachOfCrossed();
        way();
        liftWithoutText();
        liftByText();
        halfAndLessOne();
        worthOfEvenSand();
        worthOfLean();
        worthIsCut();
        worthOfGreatSand();
        Due.end();
    }

    private static SandRipples withFloor(int kind) {
        SandRipples x = new SandRipples();
        x.floor(kind);
        return x;
    }

    private static void cells() {
        Due.sentence("CELLS are 0 .. 23");
        SandRipples x = withFloor(0);
        for (int c = 0; c < 24; c++) {
            Due.is("sand(0, " + c + ")", 20, x.sand(0, c));
        }
        for (int c : OFF) {
            Due.is("sand(0, " + c + ")", Due.BAD, x.sand(0, c));
            Due.is("heap(0, " + c + ", 1)", Due.BAD, x.heap(0, c, 1));
            Due.is("lift(0, " + c + ", 0)", Due.BAD, x.lift(0, c, 0));
            Due.is("lift(0, " + c + ", 1)", Due.BAD, x.lift(0, c, 1));
            Due.is("foot(0, " + c + ", 1)", Due.BAD, x.foot(0, c, 1));
            Due.is("worm(0, " + c + ")", Due.BAD, x.worm(0, c));
        }
        Due.sandIs("no cell was touched", x, 0, 20);
    }

    private static void ring() {
        Due.sentence("CELLS .. in a ring (the next one of 23 is 0)");
        SandRipples x = withFloor(0);
        int[] up = {20, 23, 21, 0, 22, 1, 23, 2, 0, 3};
        for (int i = 0; i < up.length; i += 2) {
            Due.is("three up from " + up[i], up[i + 1], x.lift(0, up[i], 1));
        }
        x.run(0, 1);
        int[] down = {3, 0, 2, 23, 1, 22, 0, 21, 23, 20};
        for (int i = 0; i < down.length; i += 2) {
            Due.is("three down from " + down[i], down[i + 1], x.lift(0, down[i], 1));
        }
        x.sea(0, 11);
        x.turns(0, 2);
        Due.is("half the ring from 11", 23, x.lift(0, 11, 1));
        Due.is("half the ring from 12", 0, x.lift(0, 12, 1));
        Due.is("half the ring from 23", 11, x.lift(0, 23, 1));
        x.turns(0, 0);
        Due.is("eleven down from 10", 23, x.lift(0, 10, 1));
        Due.is("eleven down from 11", 0, x.lift(0, 11, 1));
    }

    private static void sixFloors() {
        Due.sentence("FLOORS, 6 at most, numbered from 0");
        SandRipples x = new SandRipples();
        Due.is("told(0, 0) of none", Due.BAD, x.told(0, 0));
        for (int f = 0; f < 6; f++) {
            Due.is("a floor that is not there yet", Due.BAD, x.sand(f, 0));
            Due.is("floor(0)", f, x.floor(0));
            Due.is("a floor that is there", 20, x.sand(f, 0));
        }
        Due.is("a seventh", Due.FULL, x.floor(0));
        Due.is("a seventh", Due.BAD, x.sand(6, 0));
        Due.is("floors", 6, x.count(0));
    }

    private static void floorsAtFirst() {
        Due.sentence("SAND of each CELL (20 at first), a TICK (0 at first)");
        SandRipples x = withFloor(2);
        x.keep();
        x.floor(3);
        Due.heaps(x, 1, 7);
        x.run(1, 9);
        x.back();
        for (int kind = 0; kind < 5; kind++) {
            int f = x.floor(kind);
            Due.is("kind of a new floor", kind, x.told(f, 0));
            Due.is("tick of a new floor", 0, x.told(f, 1));
            Due.sandIs("a new floor", x, f, 20);
            Due.heaps(x, f, kind);
            x.run(f, 1);
        }
    }

    private static void kinds() {
        Due.sentence("KINDS: 0 FLOOR; 1 FITTED, 2 BLOWN, 5 CROSSED ..; 3 CROWDED ..; 4 OLD");
        SandRipples x = withFloor(0);
        x.lay(0, 1, 0);
        for (int kind : new int[] {-1, 6, 7, Integer.MIN_VALUE, Integer.MAX_VALUE}) {
            Due.is("floor(" + kind + ")", Due.BAD, x.floor(kind));
            Due.is("turns(0, " + kind + ")", Due.BAD, x.turns(0, kind));
            Due.is("as(0, " + kind + ")", Due.BAD, x.as(0, kind));
            Due.is("ask(0, " + kind + ")", Due.BAD, x.ask(0, kind));
        }
        Due.is("floors", 1, x.count(0));
        Due.is("kind", 0, x.told(0, 0));
    }

    private static void kindsUnderOneAnother() {
        Due.sentence("1 FITTED, 2 BLOWN, 5 CROSSED, under FLOOR; 3 CROWDED, under FITTED; 4 OLD, under BLOWN");
        String[] above = {"0", "0 1", "0 2", "0 1 3", "0 2 4", "0 5"};
        for (int of = 0; of < 6; of++) {
            SandRipples x = withFloor(of);
            x.run(0, 1);
            x.lay(0, 1, 0);
            int worth = x.told(0, 7);
            for (int kind = 0; kind < 6; kind++) {
                boolean is = above[of].indexOf('0' + kind) >= 0;
                Due.is("kind " + of + " as " + kind, is ? 1 : Due.KIND, x.as(0, kind));
                Due.is("kind " + of + " asked as " + kind, is ? worth : Due.KIND, x.ask(0, kind));
            }
        }
    }

    private static void seaAtFirst() {
        Due.sentence("FAR .. (3 at first), PACE .. (2), SECOND .. (5), STEEP .. (4)");
        SandRipples x = new SandRipples();
        int[] first = {3, 2, 5, 4};
        for (int what = 0; what < 4; what++) {
            Due.is("count(" + (what + 1) + ")", first[what], x.count(what + 1));
        }
        for (int what = 0; what < 4; what++) {
            Due.is("sea(" + what + ", 1)", first[what], x.sea(what, 1));
        }
    }

    private static void seaBounds() {
        Due.sentence("FAR 0 .. 11, PACE 0 .. 9, SECOND 0 .. 11, STEEP 1 .. 20");
        int[] least = {0, 0, 0, 1};
        int[] most = {11, 9, 11, 20};
        SandRipples x = new SandRipples();
        for (int what = 0; what < 4; what++) {
            int was = x.count(what + 1);
            for (int v = least[what]; v <= most[what]; v++) {
                Due.is("sea(" + what + ", " + v + ")", was, x.sea(what, v));
                was = v;
            }
            for (int v : new int[] {least[what] - 1, most[what] + 1, Integer.MIN_VALUE, Integer.MAX_VALUE}) {
                Due.is("sea(" + what + ", " + v + ")", Due.BAD, x.sea(what, v));
            }
            Due.is("what is refused changes nothing", most[what], x.count(what + 1));
        }
        Due.is("sea(4, 5)", Due.BAD, x.sea(4, 5));
        Due.is("sea(-1, 5)", Due.BAD, x.sea(-1, 5));
    }

    private static void reachByFar() {
        Due.sentence("FITTED: 2 times as FLOOR, by 3. CROWDED: .. (0 at least). BLOWN: .. and 1. OLD: half of as BLOWN");
        int[][] reach = {
            {0, 1, 2, 3, 4, 5, 6, 7, 8, 9, 10, 11},
            {0, 0, 1, 2, 2, 3, 4, 4, 5, 6, 6, 7},
            {1, 2, 3, 4, 5, 6, 7, 8, 9, 10, 11, 12},
            {0, 0, 0, 1, 1, 2, 3, 3, 4, 5, 5, 6},
            {0, 1, 1, 2, 2, 3, 3, 4, 4, 5, 5, 6}};
        for (int kind = 0; kind < 5; kind++) {
            SandRipples x = withFloor(kind);
            for (int tick = 0; tick < 2; tick++) {
                for (int far = 0; far < 12; far++) {
                    x.sea(0, far);
                    String at = "kind " + kind + ", far " + far + ", tick " + tick;
                    int way = tick == 0 || kind == 2 || kind == 4 ? 1 : -1;
                    Due.is("reach of " + at, reach[kind][far], x.told(0, 8));
                    Due.is("where cell 12 goes, " + at, (12 + way * reach[kind][far]) % 24, x.lift(0, 12, 1));
                }
                x.run(0, 1);
            }
        }
    }

    private static void reachOfCrossed() {
        Due.sentence("CROSSED: FAR, if TICK is even, else SECOND");
        SandRipples x = withFloor(5);
        x.sea(0, 0);
        x.sea(2, 11);
        for (int tick = 0; tick < 5; tick++) {
            Due.is("reach at tick " + tick, tick % 2 == 0 ? 0 : 11, x.told(0, 8));
            Due.is("where cell 5 goes at tick " + tick, tick % 2 == 0 ? 5 : 18, x.lift(0, 5, 1));
            x.run(0, 1);
        }
        x.sea(0, 11);
        x.sea(2, 0);
        Due.is("reach at tick 5", 0, x.told(0, 8));
        x.run(0, 1);
        Due.is("reach at tick 6", 11, x.told(0, 8));
    }

    private static void way() {
        Due.sentence("WAY: FLOOR: up (to greater numbers), if TICK is even, else down. BLOWN: up");
        for (int kind = 0; kind < 6; kind++) {
            SandRipples x = withFloor(kind);
            boolean upAlone = kind == 2 || kind == 4;
            for (int tick = 0; tick < 5; tick++) {
                Due.is("way of kind " + kind + " at tick " + tick, upAlone || tick % 2 == 0 ? 1 : -1, x.told(0, 9));
                x.run(0, 1);
            }
            x.run(0, 59);
            Due.is("way of kind " + kind + " at tick 64", 1, x.told(0, 9));
        }
    }

    /** LIFT of each of these heaps, on a floor of a kind. */
    private static void lifts(SandRipples x, int kind, int[] heaps, int... due) {
        x.turns(0, kind);
        for (int i = 0; i < heaps.length; i++) {
            x.heap(0, i, heaps[i]);
            Due.is("lift of " + heaps[i] + ", kind " + kind, due[i], x.lift(0, i, 0));
        }
    }

    private static void liftWithoutText() {
        Due.sentence("LIFT .. (without a TEXT: PACE, its SAND at most)");
        SandRipples x = withFloor(0);
        x.sea(1, 9);
        int[] heaps = {0, 1, 8, 9, 10, 99};
        for (int kind : new int[] {0, 1, 2, 5}) {
            lifts(x, kind, heaps, 0, 1, 8, 9, 9, 9);
        }
        Due.sentence("CROWDED: half of as FITTED. OLD: as BLOWN, less 1 (0 at least)");
        lifts(x, 3, heaps, 0, 0, 4, 4, 4, 4);
        lifts(x, 4, heaps, 0, 0, 7, 8, 8, 8);
        x.sea(1, 0);
        for (int kind = 0; kind < 6; kind++) {
            lifts(x, kind, heaps, 0, 0, 0, 0, 0, 0);
        }
        x.sea(1, 1);
        lifts(x, 3, heaps, 0, 0, 0, 0, 0, 0);
        lifts(x, 4, heaps, 0, 0, 0, 0, 0, 0);
    }

    private static void liftByText() {
        Due.sentence("FLOOR: what lift gives, held within 0 and its SAND");
        SandRipples x = withFloor(0);
        int[] heaps = {0, 1, 7, 98, 99};
        Due.text(x, "lift 0-1");
        for (int kind = 0; kind < 6; kind++) {
            lifts(x, kind, heaps, 0, 0, 0, 0, 0);
        }
        Due.text(x, "lift h+1");
        for (int kind : new int[] {0, 1, 2, 5}) {
            lifts(x, kind, heaps, 0, 1, 7, 98, 99);
        }
        Due.text(x, "lift 98");
        lifts(x, 0, heaps, 0, 1, 7, 98, 98);
        Due.text(x, "lift 2048*1024*1024");
        lifts(x, 0, heaps, 0, 0, 0, 0, 0);
    }

    private static void halfAndLessOne() {
        Due.sentence("CROWDED: half of as FITTED. OLD: as BLOWN, less 1 (0 at least)");
        SandRipples x = withFloor(0);
        int[] heaps = {0, 1, 2, 7, 99};
        // What is above the sand is held first, and halved or lessened then.
        Due.text(x, "lift 9999");
        lifts(x, 3, heaps, 0, 0, 1, 3, 49);
        lifts(x, 4, heaps, 0, 0, 1, 6, 98);
        Due.text(x, "lift 1");
        lifts(x, 3, heaps, 0, 0, 0, 0, 0);
        lifts(x, 4, heaps, 0, 0, 0, 0, 0);
        Due.text(x, "lift 2");
        lifts(x, 3, heaps, 0, 0, 1, 1, 1);
        lifts(x, 4, heaps, 0, 0, 1, 1, 1);
    }

    private static void worths(SandRipples x, String of, int... due) {
        for (int kind = 0; kind < 6; kind++) {
            x.turns(0, kind);
            Due.is("worth of " + of + ", kind " + kind, due[kind], x.told(0, 7));
            x.lay(0, 1, 0);
            Due.is("worth of " + of + " in a slot, kind " + kind, due[kind], x.ask(0, 0));
        }
    }

    private static void worthOfEvenSand() {
        Due.sentence("WORTH: FLOOR: the greatest SAND less the least. FITTED: .. OLD: as BLOWN, and 10. CROSSED: all SAND, by 24");
        SandRipples x = withFloor(0);
        worths(x, "even sand", 0, 0, 0, 0, 10, 20);
        Due.heaps(x, 0, 0);
        worths(x, "no sand", 0, 0, 0, 0, 10, 0);
        Due.heaps(x, 0, 99);
        worths(x, "full cells", 0, 0, 0, 0, 10, 99);
        Due.heaps(x, 0, 0, 99);
        worths(x, "cells by turns", 99, 99 + 12, 0, 2 * (99 + 12), 10, 49);
    }

    private static void worthOfLean() {
        Due.sentence("BLOWN: LEAN. OLD: as BLOWN, and 10");
        SandRipples x = withFloor(0);
        for (int c = 0; c < 24; c++) {
            x.heap(0, c, c);
        }
        worths(x, "a long rise", 23, 24, 22, 48, 32, 276 / 24);
        for (int c = 0; c < 24; c++) {
            x.heap(0, c, 23 - c);
        }
        worths(x, "a long fall", 23, 24, -22, 48, -12, 276 / 24);
    }

    private static void worthIsCut() {
        Due.sentence("CROSSED: all SAND, by 24");
        SandRipples x = withFloor(5);
        x.heap(0, 9, 19);
        Due.is("479 grains", 19, x.told(0, 7));
        x.heap(0, 9, 43);
        Due.is("503 grains", 20, x.told(0, 7));
        x.heap(0, 9, 44);
        Due.is("504 grains", 21, x.told(0, 7));
        Due.heaps(x, 0, 0);
        x.heap(0, 0, 23);
        Due.is("23 grains", 0, x.told(0, 7));
    }

    /** A cell may hold more than heap could put there. */
    private static void worthOfGreatSand() {
        Due.sentence("WORTH: FLOOR: the greatest SAND less the least");
        SandRipples x = withFloor(0);
        Due.heaps(x, 0, 0);
        for (int i = 0; i < 3; i++) {
            x.heap(0, 22, 99);
            x.foot(0, 22, 99);
        }
        Due.is("three times fifty", 150, x.sand(0, 23));
        Due.is("three times the rest", 147, x.sand(0, 21));
        worths(x, "great heaps", 150, 152, 0, 304, 10, 297 / 24);
    }
}
