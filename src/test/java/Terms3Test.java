/** Terms, part 3: UNLIKE, TURNED, SEEN, BEST PACE; a FOOT, a WORM, PRESSED; draws. A sentence each. */
public final class Terms3Test {
    public static void main(String[] args) {
        unlike();
        turnedByEach();
        turnedToTheLeast();
        seenByEachFar();
        seenOfSeveral();
        seenByNumbersAlone();
        seenAsTheSeaIs();
        seenBehindTicks();
        bestOfAllPaces();
        bestOfSeveral();
        bestBehindTicks();
        footByTurns();
        footOfAllThatIsThere();
        footBeyondAllHeaps();
        worm();
        wormRoundTheRing();
        pressed();
        zIsOneAtFirst();
        draws();
        Due.end();
    }

    private static SandRipples bare(int floors, int kind) {
        SandRipples x = new SandRipples();
        for (int f = 0; f < floors; f++) {
            x.floor(kind);
            Due.heaps(x, f, 0);
        }
        x.sea(3, 20);
        return x;
    }

    private static void unlike() {
        Due.sentence("UNLIKE of two FLOORS: how many CELLS have other SAND");
        SandRipples x = bare(2, 0);
        x.run(1, 3);
        x.turns(1, 4);
        Due.is("kinds and ticks do not count", 0, x.unlike(0, 1));
        for (int c = 0; c < 24; c++) {
            x.heap(c % 2, c, 1 + c);
            Due.is("unlike", c + 1, x.unlike(0, 1));
            Due.is("unlike the other way round", c + 1, x.unlike(1, 0));
        }
        Due.is("unlike itself", 0, x.unlike(1, 1));
    }

    private static void turnedByEach() {
        Due.sentence("TURNED: the least t 0 .. 23 with which, if CELL c of the other one were its CELL c and t, UNLIKE is least");
        for (int t = 0; t < 24; t++) {
            SandRipples x = bare(2, 0);
            for (int c = 0; c < 24; c++) {
                x.heap(0, c, c);
                x.heap(1, (c + t) % 24, c);
            }
            Due.is("turned by " + t, t, x.turned(0, 1, 0));
            Due.is("unlike then", 0, x.turned(0, 1, 1));
            Due.is("turned back", (24 - t) % 24, x.turned(1, 0, 0));
            x.heap(1, t, 99);
            Due.is("turned by " + t + ", one cell is other", t, x.turned(0, 1, 0));
            Due.is("unlike then", 1, x.turned(0, 1, 1));
        }
    }

    private static void turnedToTheLeast() {
        Due.sentence("TURNED: the least t 0 .. 23 with which .. UNLIKE is least");
        SandRipples x = bare(3, 0);
        Due.is("of even sand", 0, x.turned(0, 1, 0));
        Due.heaps(x, 2, 1);
        Due.is("all are unlike", 0, x.turned(0, 2, 0));
        Due.is("all are unlike", 24, x.turned(0, 2, 1));
        x.heap(0, 5, 3);
        x.heap(0, 17, 3);
        x.heap(1, 7, 3);
        x.heap(1, 19, 3);
        Due.is("by 2 or 14", 2, x.turned(0, 1, 0));
        Due.is("by 10 or 22", 10, x.turned(1, 0, 0));
        Due.is("itself by 0 or 12", 0, x.turned(0, 0, 0));
        Due.is("unlike itself", 0, x.turned(0, 0, 1));
    }

    /** Two grains on cell 0 that go up FAR and 1 with each tick. */
    private static SandRipples twoGrains() {
        SandRipples x = bare(1, 2);
        x.heap(0, 0, 2);
        return x;
    }

    private static void seenByEachFar() {
        Due.sentence("SEEN ..: the FAR 0 .. 11 with which behind k TICKS .. the differences .. are least");
        for (int sort = 0; sort < 2; sort++) {
            SandRipples x = twoGrains();
            x.sheet(0, sort, 24);
            for (int far = 0; far < 12; far++) {
                x.mark(0, far + 1, 2);
                Due.is("they lie on " + (far + 1), far, x.seen(0, 0, 1));
                x.mark(0, far + 1, 0);
            }
            Due.is("far is as it was", 3, x.count(1));
            Due.is("tick", 0, x.told(0, 1));
        }
    }

    private static void seenOfSeveral() {
        Due.sentence("SEEN ..; of several the least");
        SandRipples x = twoGrains();
        x.sheet(0, 0, 24);
        Due.is("no grains: all are as far off", 0, x.seen(0, 0, 1));
        x.mark(0, 5, 2);
        x.mark(0, 9, 2);
        Due.is("on 5 or 9", 4, x.seen(0, 0, 1));
        x.mark(0, 5, 1);
        Due.is("9 is nearer than 5", 8, x.seen(0, 0, 1));
        x.mark(0, 9, 1);
        Due.is("5 and 9 alike", 4, x.seen(0, 0, 1));
        x.sheet(0, 1, 0);
        Due.is("no places", 0, x.seen(0, 0, 1));
    }

    private static void seenByNumbersAlone() {
        Due.sentence("the differences (their signs left out) of its places c that are numbers and SAND of the CELL c");
        SandRipples x = twoGrains();
        x.sheet(0, 1, 24);
        for (int c = 0; c < 24; c++) {
            x.mark(0, c, Due.NONE);
        }
        Due.is("no numbers", 0, x.seen(0, 0, 1));
        x.mark(0, 6, 0);
        Due.is("one number, and 0 is off it", 0, x.seen(0, 0, 1));
        x.mark(0, 1, 0);
        Due.is("two numbers, and 1 is the first off them", 1, x.seen(0, 0, 1));
        x.mark(0, 6, 1);
        Due.is("one of two is nearer than 0 and 2", 1, x.seen(0, 0, 1));
        x.mark(0, 6, 99999);
        Due.is("far above", 5, x.seen(0, 0, 1));
        x.mark(0, 6, -99999);
        Due.is("far below", 1, x.seen(0, 0, 1));
        // Above by 2 and below by 2 do not make up for each other: 4 against 0 and 4.
        x.mark(0, 6, 2);
        x.mark(0, 1, -1);
        Due.is("signs are left out", 5, x.seen(0, 0, 1));
        x.sheet(1, 0, 3);
        x.mark(1, 0, 2);
        // The sheet ends ahead of where they lie with a FAR from 2 on: two too few on 0 alone.
        Due.is("beyond the sheet", 2, x.seen(1, 0, 1));
    }

    private static void seenAsTheSeaIs() {
        Due.sentence("SEEN .. (PACE, SECOND, STEEP as they are)");
        SandRipples x = bare(1, 5);
        x.heap(0, 12, 2);
        x.sea(2, 4);
        x.sheet(0, 0, 24);
        x.mark(0, 13, 2);
        // Up FAR, then down SECOND, 4: 13 is 12 and 5 less 4.
        Due.is("second is 4", 5, x.seen(0, 0, 2));
        x.sea(2, 9);
        Due.is("second is 9", 10, x.seen(0, 0, 2));
        x.sea(1, 1);
        // One of two goes up, one stays; then both go down 9, the one that stayed to 3 and the other to 3 and FAR.
        x.mark(0, 13, 1);
        x.mark(0, 3, 1);
        Due.is("pace is 1", 10, x.seen(0, 0, 2));
        x.sea(1, 0);
        Due.is("pace is 0", 0, x.seen(0, 0, 2));
        SandRipples y = bare(1, 0);
        y.sea(1, 9);
        y.sea(3, 5);
        y.heap(0, 0, 6);
        y.sheet(0, 0, 24);
        y.mark(0, 3, 5);
        y.mark(0, 4, 1);
        Due.is("steep is 5", 3, y.seen(0, 0, 1));
        y.sea(3, 6);
        Due.is("steep is 6", 3, y.seen(0, 0, 1));
        y.mark(0, 3, 0);
        y.mark(0, 4, 5);
        y.mark(0, 5, 1);
        Due.is("all six stay together", 4, y.seen(0, 0, 1));
    }

    private static void seenBehindTicks() {
        Due.sentence("SEEN, k 0 .. 30");
        SandRipples x = twoGrains();
        x.sheet(0, 0, 24);
        x.mark(0, 6, 2);
        Due.is("behind 0 ticks", 0, x.seen(0, 0, 0));
        Due.is("behind 1 tick", 5, x.seen(0, 0, 1));
        Due.is("behind 2 ticks, three each", 2, x.seen(0, 0, 2));
        Due.is("behind 30 ticks, 30 is 6 and a ring", 0, x.seen(0, 0, 30));
        Due.is("behind 29 ticks, 29 times 6 is 6 and seven rings", 5, x.seen(0, 0, 29));
        Due.is("behind 31 ticks", Due.BAD, x.seen(0, 0, 31));
        Due.is("behind -1 ticks", Due.BAD, x.seen(0, 0, -1));
    }

    private static void bestOfAllPaces() {
        Due.sentence("BEST PACE for k: the PACE 0 .. 9 with which there are most CRESTS behind k TICKS");
        for (int pace = 0; pace < 10; pace++) {
            SandRipples x = bare(1, 2);
            x.heap(0, 0, 2);
            Due.text(x, "lift (p=" + pace + ")");
            Due.text(x, "slide 0");
            Due.is("two crests", pace, x.best(0, 1, 0));
            Due.is("two crests", 2, x.best(0, 1, 1));
            Due.is("pace is as it was", 2, x.count(2));
            Due.is("sand is as it was", 2, x.sand(0, 0));
        }
    }

    private static void bestOfSeveral() {
        Due.sentence("BEST PACE ..; of several the least");
        SandRipples x = bare(1, 2);
        Due.is("no crests", 0, x.best(0, 1, 0));
        Due.is("no crests", 0, x.best(0, 1, 1));
        x.heap(0, 0, 5);
        // None is lifted, or all: one crest; 1 to 4 of five: two.
        Due.is("from 1 to 4", 1, x.best(0, 1, 0));
        Due.is("from 1 to 4", 2, x.best(0, 1, 1));
        Due.text(x, "lift (p>6)");
        Due.is("from 7 to 9", 7, x.best(0, 1, 0));
        Due.is("from 7 to 9", 2, x.best(0, 1, 1));
    }

    private static void bestBehindTicks() {
        Due.sentence("BEST PACE for k (0 .. 30)");
        SandRipples x = bare(1, 2);
        x.sea(0, 0);
        x.heap(0, 0, 9);
        Due.is("behind 0 ticks", 0, x.best(0, 0, 0));
        Due.is("behind 0 ticks", 1, x.best(0, 0, 1));
        // What it thinks is what the ticks themselves do.
        for (int k : new int[] {1, 29, 30}) {
            int most = -1;
            int best = 0;
            for (int pace = 0; pace < 10; pace++) {
                SandRipples y = bare(1, 2);
                y.sea(0, 0);
                y.sea(1, pace);
                y.heap(0, 0, 9);
                y.run(0, k);
                if (y.told(0, 5) > most) {
                    most = y.told(0, 5);
                    best = pace;
                }
            }
            Due.is("behind " + k + " ticks", best, x.best(0, k, 0));
            Due.is("behind " + k + " ticks", most, x.best(0, k, 1));
        }
        Due.is("behind 31 ticks", Due.BAD, x.best(0, 31, 0));
        Due.is("behind -1 ticks", Due.BAD, x.best(0, -1, 0));
    }

    private static void footByTurns() {
        Due.sentence("go, one by one, by turns to the next CELL and to the one ahead");
        for (int cell : new int[] {0, 1, 12, 22, 23}) {
            for (int n = 0; n <= 5; n++) {
                SandRipples x = bare(1, 0);
                x.heap(0, cell, 5);
                Due.is("foot of " + n, n, x.foot(0, cell, n));
                Due.is("its cell", 5 - n, x.sand(0, cell));
                Due.is("the next one", (n + 1) / 2, x.sand(0, (cell + 1) % 24));
                Due.is("the one ahead", n / 2, x.sand(0, (cell + 23) % 24));
                Due.is("all sand", 5, x.told(0, 2));
                Due.is("tick", 0, x.told(0, 1));
            }
        }
    }

    private static void footOfAllThatIsThere() {
        Due.sentence("A FOOT on a CELL, n deep: n grains (as many as it has, at most)");
        SandRipples x = bare(1, 0);
        Due.is("on no sand", 0, x.foot(0, 3, 99));
        Due.sandIs("on no sand", x, 0, 0);
        x.heap(0, 3, 7);
        Due.is("of 7, 8 deep", 7, x.foot(0, 3, 8));
        Due.is("the next one", 4, x.sand(0, 4));
        Due.is("the one ahead", 3, x.sand(0, 2));
        x.heap(0, 3, 7);
        Due.is("of 7, 7 deep", 7, x.foot(0, 3, 7));
        x.heap(0, 3, 7);
        Due.is("of 7, 6 deep", 6, x.foot(0, 3, 6));
        Due.is("one is left", 1, x.sand(0, 3));
        x.heap(0, 3, 99);
        Due.is("of 99, 99 deep", 99, x.foot(0, 3, 99));
        Due.is("none is left", 0, x.sand(0, 3));
    }

    private static void footBeyondAllHeaps() {
        Due.sentence("A FOOT, n 0 .. 99 deep");
        SandRipples x = bare(1, 0);
        x.heap(0, 8, 99);
        x.heap(0, 7, 99);
        Due.is("of 99", 99, x.foot(0, 7, 99));
        Due.is("99 and 50", 149, x.sand(0, 8));
        Due.is("of 149", 99, x.foot(0, 8, 99));
        Due.is("what is left", 50, x.sand(0, 8));
        Due.is("the one ahead", 49, x.sand(0, 7));
        Due.is("the next one", 50, x.sand(0, 9));
        Due.is("100 deep", Due.BAD, x.foot(0, 8, 100));
        Due.is("-1 deep", Due.BAD, x.foot(0, 8, -1));
        Due.is("what is left", 50, x.sand(0, 8));
    }

    private static void worm() {
        Due.sentence("its SAND and that of both beside it, together: each has a third (cut), and it what is left besides");
        for (int sum = 0; sum <= 9; sum++) {
            for (int where = -1; where <= 1; where++) {
                SandRipples x = bare(1, 0);
                x.heap(0, 12 + where, sum);
                Due.is("worm of " + sum, sum / 3 + sum % 3, x.worm(0, 12));
                Due.is("its cell", sum / 3 + sum % 3, x.sand(0, 12));
                Due.is("the one ahead", sum / 3, x.sand(0, 11));
                Due.is("the next one", sum / 3, x.sand(0, 13));
                Due.is("all sand", sum, x.told(0, 2));
            }
        }
    }

    private static void wormRoundTheRing() {
        Due.sentence("CELLS .. in a ring (the next one of 23 is 0)");
        SandRipples x = bare(1, 0);
        x.heap(0, 23, 8);
        Due.is("worm at 0", 4, x.worm(0, 0));
        Due.is("sand(0, 23)", 2, x.sand(0, 23));
        Due.is("sand(0, 1)", 2, x.sand(0, 1));
        Due.heaps(x, 0, 0);
        x.heap(0, 0, 8);
        Due.is("worm at 23", 4, x.worm(0, 23));
        Due.is("sand(0, 0)", 2, x.sand(0, 0));
        Due.is("sand(0, 22)", 2, x.sand(0, 22));
    }

    private static void pressed() {
        Due.sentence("PRESSED by h: SAND of all CELLS becomes SAND times h / 100");
        int[][] all = {
            // The sand, h, the sand then.
            {99, 100, 99}, {99, 99, 98}, {1, 99, 0}, {1, 100, 1}, {2, 50, 1}, {3, 50, 1}, {99, 1, 0}, {99, 2, 1}, {50, 2, 1},
            {49, 2, 0}, {0, 100, 0}, {99, 0, 0}, {10, 10, 1}, {10, 9, 0}};
        for (int[] a : all) {
            SandRipples x = bare(2, 0);
            Due.heaps(x, 0, a[0]);
            Due.is("press " + a[0] + " by " + a[1], 24 * (a[0] - a[2]), x.press(0, a[1]));
            Due.sandIs("pressed " + a[0] + " by " + a[1], x, 0, a[2]);
            Due.is("another floor", 0, x.told(1, 2));
            Due.is("tick", 0, x.told(0, 1));
        }
        SandRipples x = bare(1, 0);
        x.heap(0, 5, 99);
        x.heap(0, 4, 99);
        x.foot(0, 4, 99);
        Due.is("a cell of 149 by 99, one of 49", 2 + 1, x.press(0, 99));
        Due.is("sand(0, 5)", 147, x.sand(0, 5));
    }

    private static void zIsOneAtFirst() {
        Due.sentence("z is told (1 at first)");
        SandRipples x = bare(1, 0);
        Due.is("z", 1, x.count(8));
        x.deal(0);
        int z = x.count(8);
        SandRipples y = bare(1, 0);
        y.seed(1);
        y.deal(0);
        Due.is("the same from 1", z, y.count(8));
    }

    private static void draws() {
        Due.sentence("z becomes z * 1103515245 + 12345 (an int); it gives z >>> 8. .. of each CELL, from 0 on, the rest of a draw by 40");
        for (int first : new int[] {0, 1, -1, Integer.MIN_VALUE, Integer.MAX_VALUE, 123456789}) {
            SandRipples x = bare(2, 0);
            x.seed(first);
            long z = first;
            int all = 0;
            int[] due = new int[24];
            for (int c = 0; c < 24; c++) {
                z = (z * 1103515245L + 12345L) & 0xffffffffL;
                due[c] = (int) ((z / 256) % 40);
                all += due[c];
            }
            Due.is("deal(0) from " + first, all, x.deal(0));
            Due.sandIs("deal from " + first, x, 0, due);
            Due.is("z behind it", (int) z, x.count(8));
            Due.is("another floor", 0, x.told(1, 2));
        }
    }
}
