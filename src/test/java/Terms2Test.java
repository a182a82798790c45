/** Terms, part 2: ticks, slides, MOVED; crests, LEAN, APART, FLAT, SOON, PERIOD, MARKS. A sentence each. */
public final class Terms2Test {
    public static void main(String[] args) {
        liftsSeeNoOther();
        liftsComeFurtherOn();
        slidesByThen();
        nextBeforeAhead();
        slidesRoundTheRing();
        slidesAreHeld();
        steep();
        tickIsOneMore();
        movedWithoutReach();
        movedTogether();
        crestsAndEvenSand();
        crestsOnEachCell();
        lean();
        apart();
        flat();
        flatBeyondAllHeaps();
        soonNow();
        soonForTheFirstTime();
        period();
        onlyThought();
        marks();
        Due.end();
    }

    /** A floor of no sand, on which nothing slides by itself. */
    private static SandRipples bare(int kind) {
        SandRipples x = new SandRipples();
        x.floor(kind);
        Due.heaps(x, 0, 0);
        x.sea(3, 20);
        return x;
    }

    /** The sand of the first cells; all others have none. */
    private static void firstCellsAre(String what, SandRipples x, int... sand) {
        int[] all = new int[24];
        System.arraycopy(sand, 0, all, 0, sand.length);
        Due.sandIs(what, x, 0, all);
    }

    private static void liftsSeeNoOther() {
        Due.sentence("first LIFTS of all CELLS, SAND as it is ahead of it");
        SandRipples x = bare(2);
        x.sea(0, 0);
        x.sea(1, 9);
        x.heap(0, 0, 5);
        Due.is("five grains go one cell on", 5, x.run(0, 1));
        firstCellsAre("they go no further", x, 0, 5);
        Due.text(x, "lift s");
        x.heap(0, 0, 10);
        x.heap(0, 1, 4);
        // Six of cell 0 to 1, the four of cell 1 to 2.
        Due.is("lifts by s", 10, x.run(0, 1));
        firstCellsAre("lifts by s", x, 4, 6, 4);
        SandRipples y = bare(0);
        y.sea(0, 1);
        y.sea(1, 9);
        y.run(0, 1);
        y.heap(0, 5, 7);
        Due.is("downwards too", 7, y.run(0, 1));
        firstCellsAre("downwards too", y, 0, 0, 0, 0, 7);
    }

    private static void liftsComeFurtherOn() {
        Due.sentence("come to the CELL that lies REACH further on in the WAY");
        int[] upFrom20 = {23, 22, 0, 21, 22, 23};
        int[] downFrom1 = {22, 23, 5, 0, 3, 20};
        for (int kind = 0; kind < 6; kind++) {
            SandRipples x = bare(kind);
            x.sea(1, 2);
            x.heap(0, 20, 4);
            int lifted = kind == 3 || kind == 4 ? 1 : 2;
            Due.is("moved up, kind " + kind, lifted, x.run(0, 1));
            Due.is("what stays, kind " + kind, 4 - lifted, x.sand(0, 20));
            Due.is("where it comes, kind " + kind, lifted, x.sand(0, upFrom20[kind]));
            Due.heaps(x, 0, 0);
            x.heap(0, 1, 4);
            Due.is("moved on an odd tick, kind " + kind, lifted, x.run(0, 1));
            Due.is("where it comes on an odd tick, kind " + kind, lifted, x.sand(0, downFrom1[kind]));
            Due.is("none is lost", 4, x.told(0, 2));
        }
    }

    private static void slidesByThen() {
        Due.sentence("Then SLIDES, CELL by CELL from 0 on, SAND as it is by then");
        SandRipples x = bare(0);
        x.sea(1, 0);
        Due.text(x, "slide d");
        x.heap(0, 0, 8);
        Due.is("4, 2 and 1 slide", 7, x.run(0, 1));
        firstCellsAre("slides that see each other", x, 4, 2, 1, 1);
        SandRipples y = bare(2);
        y.sea(0, 0);
        y.sea(1, 9);
        y.sea(3, 4);
        y.heap(0, 7, 9);
        // All nine are lifted to cell 8, and one of them slides from there.
        Due.is("lifts are ahead of slides", 10, y.run(0, 1));
        Due.is("sand(0, 7)", 0, y.sand(0, 7));
        Due.is("sand(0, 8)", 8, y.sand(0, 8));
        Due.is("sand(0, 9)", 1, y.sand(0, 9));
    }

    private static void nextBeforeAhead() {
        Due.sentence("more than that of the next CELL, else (if that is 0 or less) than that of the one ahead: if d is above 0");
        int[][] all = {
            // The sand of cells 9, 10, 11, 12; how many slide; the sand behind it.
            {0, 6, 6, 6, 2, 1, 5, 6, 5},
            {0, 5, 9, 9, 3, 1, 5, 8, 8},
            {0, 9, 8, 8, 1, 0, 9, 8, 7},
            {9, 9, 4, 4, 2, 8, 8, 5, 4},
            {6, 6, 6, 6, 2, 5, 6, 6, 5},
            {0, 9, 9, 9, 2, 1, 8, 9, 8}};
        for (int[] a : all) {
            SandRipples x = bare(0);
            x.sea(1, 0);
            x.sea(3, 4);
            for (int i = 0; i < 4; i++) {
                x.heap(0, 9 + i, a[i]);
            }
            String of = a[0] + " " + a[1] + " " + a[2] + " " + a[3];
            Due.is("slides of " + of, a[4], x.run(0, 1));
            for (int i = 0; i < 4; i++) {
                Due.is("cell " + (9 + i) + " of " + of, a[5 + i], x.sand(0, 9 + i));
            }
        }
    }

    private static void slidesRoundTheRing() {
        Due.sentence("CELLS .. in a ring (the next one of 23 is 0)");
        SandRipples x = bare(0);
        x.sea(1, 0);
        x.sea(3, 4);
        x.heap(0, 23, 9);
        Due.is("from 23 to 0", 1, x.run(0, 1));
        Due.is("sand(0, 0)", 1, x.sand(0, 0));
        Due.is("sand(0, 22)", 0, x.sand(0, 22));
        Due.heaps(x, 0, 0);
        x.heap(0, 0, 9);
        x.heap(0, 1, 9);
        Due.is("from 0 to 23, and from 1 to 2", 2, x.run(0, 1));
        Due.is("sand(0, 23)", 1, x.sand(0, 23));
        Due.is("sand(0, 0)", 8, x.sand(0, 0));
        Due.is("sand(0, 2)", 1, x.sand(0, 2));
    }

    private static void slidesAreHeld() {
        Due.sentence("so many grains go there as slide gives, held within 0 and d / 2");
        // By how much cell 0 is more than all others; how many slide then, those that slide on from 1 and 2 too.
        int[][] all = {{0, 0}, {1, 0}, {2, 1}, {3, 1}, {4, 3}, {5, 3}, {6, 4}, {7, 4}, {8, 7}};
        for (int[] a : all) {
            SandRipples x = bare(0);
            x.sea(1, 0);
            Due.heaps(x, 0, 10);
            x.heap(0, 0, 10 + a[0]);
            Due.text(x, "slide 0-9");
            Due.is("slides below 0", 0, x.run(0, 1));
            Due.text(x, "slide 0");
            Due.is("slides of 0", 0, x.run(0, 1));
            Due.text(x, "slide 9999");
            Due.is("slides with d " + a[0], a[1], x.run(0, 1));
            Due.is("none is lost", 240 + a[0], x.told(0, 2));
        }
        SandRipples x = bare(0);
        x.sea(1, 0);
        x.heap(0, 4, 11);
        Due.text(x, "slide 4*(d=11)");
        Due.is("below the half, as it is", 4, x.run(0, 1));
        Due.is("sand(0, 5)", 4, x.sand(0, 5));
    }

    private static void steep() {
        Due.sentence("(without a TEXT: 1, if d is above STEEP, else 0)");
        for (int steep = 1; steep <= 20; steep++) {
            SandRipples x = bare(0);
            x.sea(1, 0);
            x.sea(3, steep);
            x.heap(0, 6, steep);
            Due.is("d is steep " + steep, 0, x.run(0, 1));
            x.heap(0, 6, steep + 1);
            Due.is("d is one above steep " + steep, 1, x.run(0, 1));
            x.heap(0, 6, 99);
            x.heap(0, 7, 0);
            Due.is("one alone, steep " + steep, 1, x.run(0, 1));
        }
    }

    private static void tickIsOneMore() {
        Due.sentence("TICK is 1 more");
        SandRipples x = new SandRipples();
        x.floor(0);
        x.floor(4);
        int[] due = {1, 61, 63};
        int[] n = {1, 60, 2};
        for (int i = 0; i < n.length; i++) {
            x.run(1, n[i]);
            Due.is("tick", due[i], x.told(1, 1));
            Due.is("tick of another floor", 0, x.told(0, 1));
        }
        Due.is("as(1, 2)", 63, x.as(1, 2));
    }

    private static void movedWithoutReach() {
        Due.sentence("MOVED: how many grains were lifted with a REACH above 0, and did slide");
        // The kind, FAR, and how many are lifted of all cells, if that counts.
        int[][] all = {
            {0, 0, 0}, {1, 0, 0}, {1, 1, 0}, {3, 1, 0}, {3, 2, 0}, {4, 0, 0}, {5, 0, 0},
            {0, 1, 48}, {1, 2, 48}, {3, 3, 24}, {4, 1, 24}, {5, 1, 48}, {2, 0, 48}};
        for (int[] a : all) {
            SandRipples x = bare(a[0]);
            Due.heaps(x, 0, 20);
            x.sea(0, a[1]);
            Due.is("no slides, kind " + a[0] + ", far " + a[1], a[2], x.run(0, 1));
            Due.sandIs("lifts of even sand", x, 0, 20);
        }
        SandRipples x = bare(0);
        x.sea(0, 0);
        x.sea(1, 9);
        x.heap(0, 3, 30);
        Due.is("a slide without reach", 1, x.run(0, 1));
        Due.is("lifts without reach stay", 29, x.sand(0, 3));
    }

    private static void movedTogether() {
        Due.sentence("n .. TICKS of a FLOOR: MOVED, together");
        SandRipples x = bare(5);
        Due.heaps(x, 0, 20);
        x.sea(0, 0);
        Due.is("ticks 0, 1, 2", 48, x.run(0, 3));
        Due.is("tick 3", 48, x.run(0, 1));
        Due.is("ticks 4 to 63", 30 * 48, x.run(0, 60));
        x.sea(0, 1);
        Due.is("sixty ticks", 60 * 48, x.run(0, 60));
    }

    private static void crestsAndEvenSand() {
        Due.sentence("A CREST is a CELL with more SAND than the one ahead, and not less than the next one");
        int[][] all = {
            // The sand, eight cells and the same again; the crests of the first eight.
            {5, 5, 5, 5, 5, 5, 5, 5},
            {5, 6, 5, 5, 5, 5, 5, 5, 1},
            {5, 6, 6, 5, 5, 5, 5, 5, 1},
            {5, 6, 6, 6, 5, 5, 5, 5, 1},
            {5, 6, 6, 7, 5, 5, 5, 5, 1, 3},
            {5, 6, 7, 6, 7, 5, 5, 5, 2, 4},
            {5, 6, 7, 7, 6, 5, 5, 5, 2},
            {5, 7, 6, 6, 5, 5, 5, 5, 1},
            {6, 5, 5, 5, 5, 5, 5, 6, 7},
            {6, 5, 5, 5, 5, 5, 5, 7, 7},
            {7, 5, 5, 5, 5, 5, 5, 6, 0},
            {0, 1, 0, 1, 0, 1, 0, 1, 1, 3, 5, 7},
            {9, 8, 7, 6, 5, 4, 3, 2, 0},
            {2, 3, 4, 5, 6, 7, 8, 9, 7}};
        for (int[] a : all) {
            SandRipples x = bare(0);
            for (int c = 0; c < 24; c++) {
                x.heap(0, c, a[c % 8]);
            }
            int many = a.length - 8;
            Due.is("crests", 3 * many, x.told(0, 5));
            for (int i = 0; i < 3 * many; i++) {
                Due.is("crest " + i, i / many * 8 + a[8 + i % many], x.crest(0, i));
            }
            Due.is("one more", Due.NONE, x.crest(0, 3 * many));
        }
    }

    private static void crestsOnEachCell() {
        Due.sentence("A CREST is a CELL with more SAND than the one ahead, and not less than the next one");
        for (int c = 0; c < 24; c++) {
            SandRipples x = bare(0);
            x.heap(0, c, 1);
            Due.is("the crest", c, x.crest(0, 0));
            x.heap(0, (c + 1) % 24, 1);
            Due.is("crests of two alike", 1, x.told(0, 5));
            Due.is("the crest of two alike", c, x.crest(0, 0));
        }
    }

    private static void lean() {
        Due.sentence("LEAN: how many CELLS have less SAND than the next one, less how many have more");
        SandRipples x = bare(0);
        Due.is("lean of even sand", 0, x.told(0, 6));
        for (int c = 0; c < 24; c++) {
            Due.heaps(x, 0, 5);
            x.heap(0, c, 9);
            Due.is("one up, one down", 0, x.told(0, 6));
            x.heap(0, (c + 1) % 24, 7);
            Due.is("one up, two down", -1, x.told(0, 6));
            x.heap(0, (c + 1) % 24, 10);
            Due.is("two up, one down", 1, x.told(0, 6));
            if (c == 11) {
                x = bare(0);
            }
        }
    }

    private static void apart() {
        Due.sentence("APART: 100 times 24 by how many CRESTS (cut)");
        SandRipples x = bare(0);
        Due.is("no crests", Due.NONE, x.apart(0));
        int[] due = {2400, 1200, 800, 600, 480, 400, 342, 300, 266, 240, 218, 200};
        for (int n = 0; n < 12; n++) {
            x.heap(0, 2 * n, 1);
            Due.is("apart with " + (n + 1) + " crests", due[n], x.apart(0));
        }
    }

    private static void flat() {
        Due.sentence("FLAT for d: no SAND differs from that of the next CELL by more than d");
        for (int c = 0; c < 24; c++) {
            SandRipples x = bare(0);
            Due.heaps(x, 0, 50);
            Due.is("flat for 0", 1, x.flat(0, 0));
            x.heap(0, c, 51);
            Due.is("one more", 0, x.flat(0, 0));
            Due.is("one more", 1, x.flat(0, 1));
            x.heap(0, c, 40);
            Due.is("ten less", 0, x.flat(0, 9));
            Due.is("ten less", 1, x.flat(0, 10));
        }
        SandRipples x = bare(0);
        Due.heaps(x, 0, 0, 99);
        Due.is("flat for 98", 0, x.flat(0, 98));
        Due.is("flat for 99", 1, x.flat(0, 99));
        // One step alone differs, on whichever side of the ring it lies: a stair of ones, and 23 back to 0.
        for (int c = 0; c < 24; c++) {
            x.heap(0, c, c);
        }
        Due.is("flat for 22", 0, x.flat(0, 22));
        Due.is("flat for 23", 1, x.flat(0, 23));
    }

    private static void flatBeyondAllHeaps() {
        Due.sentence("FLAT for d: no SAND differs from that of the next CELL by more than d");
        SandRipples x = bare(0);
        x.heap(0, 5, 99);
        x.heap(0, 4, 1);
        x.foot(0, 4, 1);
        Due.is("a cell of 100", 100, x.sand(0, 5));
        Due.is("flat for 99", 0, x.flat(0, 99));
    }

    private static void soonNow() {
        Due.sentence("SOON for n: after how many TICKS (0 .. 100) there are n CRESTS or more for the first time");
        SandRipples x = bare(0);
        Due.is("no crests, for 0", 0, x.soon(0, 0));
        Due.is("no crests, for 1", Due.NONE, x.soon(0, 1));
        x.sea(1, 0);
        Due.heaps(x, 0, 0, 1);
        for (int n = 0; n <= 12; n++) {
            Due.is("twelve crests, for " + n, 0, x.soon(0, n));
        }
        for (int n = 13; n <= 24; n++) {
            Due.is("twelve crests, for " + n, Due.NONE, x.soon(0, n));
        }
    }

    private static void soonForTheFirstTime() {
        Due.sentence("SOON for n: after how many TICKS (0 .. 100) there are n CRESTS or more for the first time");
        SandRipples x = bare(0);
        x.heap(0, 4, 4);
        // Two of the four go up to cell 7; from then on two go up and two down by turns.
        Due.is("for 1", 0, x.soon(0, 1));
        Due.is("for 2", 1, x.soon(0, 2));
        Due.is("for 3", Due.NONE, x.soon(0, 3));
        x.run(0, 1);
        Due.is("for 2, a tick later", 0, x.soon(0, 2));
        // Four crests in one stride: what is more than n does as well.
        SandRipples y = bare(2);
        Due.text(y, "lift (h=2)");
        y.heap(0, 0, 2);
        y.heap(0, 10, 2);
        Due.is("for 3", 1, y.soon(0, 3));
        Due.is("for 4", 1, y.soon(0, 4));
        Due.is("for 5", Due.NONE, y.soon(0, 5));
    }

    private static void period() {
        Due.sentence("PERIOD: after how many TICKS (1 .. 100) all SAND is as it is now for the first time");
        SandRipples x = bare(0);
        Due.is("no sand", 1, x.period(0));
        x.heap(0, 4, 2);
        Due.is("there and back", 2, x.period(0));
        x.run(0, 1);
        Due.is("back and there", 2, x.period(0));
        x.turns(0, 2);
        x.sea(0, 10);
        Due.is("eleven on each time", 24, x.period(0));
        x.sea(1, 1);
        Due.is("one stays behind", Due.NONE, x.period(0));
        x.sea(1, 0);
        Due.is("none is lifted", 1, x.period(0));
        x.sea(1, 2);
        x.turns(0, 5);
        x.sea(0, 0);
        x.sea(2, 1);
        // At tick 1, 3, .. one down, else none: all round the ring. From tick 1 on the last step is the 47th.
        Due.is("each second tick alone", 47, x.period(0));
        x.run(0, 1);
        Due.is("a tick that does nothing is the first", 1, x.period(0));
    }

    private static void onlyThought() {
        Due.sentence("(Only thought: nothing changes.)");
        SandRipples x = bare(5);
        x.seed(3);
        x.deal(0);
        int z = x.count(8);
        int[] was = new int[24];
        for (int c = 0; c < 24; c++) {
            was[c] = x.sand(0, c);
        }
        x.soon(0, 24);
        x.period(0);
        x.best(0, 30, 0);
        x.sheet(0, 0, 24);
        x.seen(0, 0, 30);
        x.keep();
        x.check(0, 30);
        Due.sandIs("what was only thought", x, 0, was);
        Due.is("tick", 0, x.told(0, 1));
        int[] due = {1, 3, 2, 5, 20, 0, 0, 0, z};
        for (int what = 0; what < due.length; what++) {
            Due.is("count(" + what + ")", due[what], x.count(what));
        }
    }

    private static void marks() {
        Due.sentence("MARKS: of all CRESTS what mark gives, held within -99 .. 99 (without a TEXT: its SAND, 99 at most), together");
        SandRipples x = bare(0);
        Due.is("no crests", 0, x.told(0, 10));
        x.heap(0, 0, 99);
        x.heap(0, 12, 98);
        Due.is("without a text", 197, x.told(0, 10));
        x.heap(0, 11, 2);
        x.foot(0, 11, 1);
        x.heap(0, 11, 1);
        x.heap(0, 23, 1);
        x.foot(0, 23, 1);
        x.heap(0, 22, 0);
        x.heap(0, 10, 0);
        Due.is("a cell of 100", 100, x.sand(0, 0));
        Due.is("a cell of 99", 99, x.sand(0, 12));
        Due.is("without a text, each 99 at most", 198, x.told(0, 10));
        int[][] held = {{98, 98}, {99, 99}, {100, 99}, {9999, 99}, {-98, -98}, {-99, -99}, {-100, -99}, {-9999, -99}, {0, 0}};
        for (int[] h : held) {
            Due.text(x, "mark " + (h[0] < 0 ? "0" : "") + h[0]);
            Due.is("two crests, each marked " + h[0], 2 * h[1], x.told(0, 10));
        }
        Due.text(x, "mark 500-c*99");
        Due.is("each is held by itself", 99 - 99, x.told(0, 10));
        Due.text(x, "mark h-c");
        Due.is("99 and 87", 99 + 87, x.told(0, 10));
        Due.heaps(x, 0, 3);
        Due.text(x, "mark 7");
        Due.is("no crests, with a text", 0, x.told(0, 10));
    }
}
