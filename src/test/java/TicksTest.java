/** Promises 11 to 17: ticks. */
public final class TicksTest {
    public static void main(String[] args) {
        lift();
        liftByText();
        runLifts();
        runSlides();
        runByText();
        runWithoutReach();
        crest();
        apart();
        flat();
        soon();
        period();
        Due.end();
    }

    private static void lift() {
        SandRipples x = new SandRipples();
        x.floor(0);
        x.heap(0, 1, 0);
        x.heap(0, 2, 3);
        x.sea(1, 7);
        int[] lifts = {7, 7, 7, 3, 6, 7};
        int[] poorLifts = {3, 3, 3, 1, 2, 3};
        int[] to = {2, 1, 3, 0, 1, 2};
        for (int kind = 0; kind < 6; kind++) {
            x.turns(0, kind);
            Due.is("lift of kind " + kind, lifts[kind], x.lift(0, 0, 0));
            Due.is("lift of no sand, kind " + kind, 0, x.lift(0, 1, 0));
            Due.is("lift of little sand, kind " + kind, poorLifts[kind], x.lift(0, 2, 0));
            Due.is("where it comes, kind " + kind, to[kind], x.lift(0, 23, 1));
        }
        x.turns(0, 0);
        x.run(0, 1);
        Due.is("where it comes on an odd tick", 21, x.lift(0, 0, 1));
        for (int v : new int[] {-1, 24, Integer.MIN_VALUE, Integer.MAX_VALUE}) {
            Due.is("lift(" + v + ", 0, 0)", Due.BAD, x.lift(v, 0, 0));
            Due.is("lift(0, " + v + ", 0)", Due.BAD, x.lift(0, v, 0));
            Due.is("lift(0, 0, " + v + ")", Due.BAD, x.lift(0, 0, v));
        }
        Due.is("lift(0, 0, 2)", Due.BAD, x.lift(0, 0, 2));
        Due.is("lift(1, 0, 0)", Due.BAD, x.lift(1, 0, 0));
    }

    private static void liftByText() {
        SandRipples x = new SandRipples();
        x.floor(0);
        x.sea(0, 0);
        Due.heaps(x, 0, 10, 4, 9);
        Due.text(x, "lift s");
        Due.is("s upwards", 6, x.lift(0, 0, 0));
        Due.is("s below 0 is held", 0, x.lift(0, 1, 0));
        Due.text(x, "lift 0-s-2");
        Due.is("s upwards, below 0", 3, x.lift(0, 1, 0));
        x.sea(3, 20);
        x.sea(1, 0);
        Due.text(x, "lift p");
        x.run(0, 1);
        Due.text(x, "lift s");
        Due.is("way", -1, x.told(0, 9));
        Due.is("s downwards, round the ring", 1, x.lift(0, 0, 0));
        Due.is("s downwards", 0, x.lift(0, 1, 0));
        Due.is("s downwards", 5, x.lift(0, 2, 0));
        x.turns(0, 2);
        Due.is("s of a blown floor is upwards", 6, x.lift(0, 0, 0));
        x.turns(0, 4);
        Due.is("s of an old floor is upwards", 5, x.lift(0, 0, 0));
        x.turns(0, 3);
        Due.is("s of a crowded floor is downwards", 2, x.lift(0, 2, 0));
        Due.text(x, "lift 9999");
        x.turns(0, 0);
        Due.is("no more than its sand", 4, x.lift(0, 1, 0));
    }

    private static void runLifts() {
        SandRipples x = new SandRipples();
        x.floor(0);
        x.sea(3, 20);
        Due.heaps(x, 0, 0);
        x.heap(0, 22, 5);
        // Two grains go from 22 to 1, the three that stay do not slide: 3 is not above 20.
        Due.is("run(0, 1)", 2, x.run(0, 1));
        Due.is("sand(0, 22)", 3, x.sand(0, 22));
        Due.is("sand(0, 1)", 2, x.sand(0, 1));
        // Downwards now: two of 22 to 19, two of 1 to 22.
        Due.is("run(0, 1)", 4, x.run(0, 1));
        Due.is("sand(0, 22)", 3, x.sand(0, 22));
        Due.is("sand(0, 19)", 2, x.sand(0, 19));
        Due.is("sand(0, 1)", 0, x.sand(0, 1));
        Due.is("tick", 2, x.told(0, 1));
        for (int n : new int[] {0, -1, 61, Integer.MIN_VALUE, Integer.MAX_VALUE}) {
            Due.is("run(0, " + n + ")", Due.BAD, x.run(0, n));
        }
        Due.is("run(1, 1)", Due.BAD, x.run(1, 1));
        Due.is("run(-1, 1)", Due.BAD, x.run(-1, 1));
        Due.is("tick", 2, x.told(0, 1));
        x.run(0, 60);
        Due.is("tick", 62, x.told(0, 1));
        Due.is("all sand", 5, x.told(0, 2));
    }

    private static void runSlides() {
        SandRipples x = new SandRipples();
        x.floor(0);
        x.sea(1, 0);
        Due.heaps(x, 0, 0);
        x.heap(0, 0, 10);
        // 0 gives 1 one grain; then 1 (one more than 2, not above 4) keeps it; nothing goes back from 0 to 23.
        Due.is("run(0, 1)", 1, x.run(0, 1));
        Due.is("sand(0, 0)", 9, x.sand(0, 0));
        Due.is("sand(0, 1)", 1, x.sand(0, 1));
        Due.is("sand(0, 23)", 0, x.sand(0, 23));
        Due.heaps(x, 0, 0);
        x.heap(0, 3, 9);
        x.heap(0, 4, 9);
        // 3 has no more than 4, so it slides to 2; 4 then has 9, one more than 3: but 5 comes first, by 9.
        Due.is("run(0, 1)", 2, x.run(0, 1));
        Due.is("sand(0, 2)", 1, x.sand(0, 2));
        Due.is("sand(0, 3)", 8, x.sand(0, 3));
        Due.is("sand(0, 4)", 8, x.sand(0, 4));
        Due.is("sand(0, 5)", 1, x.sand(0, 5));
        Due.heaps(x, 0, 0);
        x.heap(0, 3, 4);
        Due.is("d is not above steep", 0, x.run(0, 1));
        x.heap(0, 3, 5);
        Due.is("d is above steep", 1, x.run(0, 1));
        Due.heaps(x, 0, 9);
        x.heap(0, 3, 8);
        x.heap(0, 2, 0);
        x.heap(0, 4, 7);
        // 3 is one more than 4: that is what counts, though it is 8 more than 2.
        x.run(0, 1);
        Due.is("the next cell counts first", 8, x.sand(0, 3));
    }

    private static void runByText() {
        SandRipples x = new SandRipples();
        x.floor(0);
        Due.text(x, "slide d");
        Due.text(x, "lift 0");
        Due.heaps(x, 0, 0);
        x.heap(0, 0, 11);
        // 0 gives 5 to 1; 1 gives 2 to 2; 2 gives 1 to 3; 3 has one more than 4 and gives none.
        Due.is("run(0, 1)", 8, x.run(0, 1));
        int[] due = {6, 3, 1, 1};
        for (int c = 0; c < 4; c++) {
            Due.is("sand(0, " + c + ")", due[c], x.sand(0, c));
        }
        Due.is("sand(0, 23)", 0, x.sand(0, 23));
        Due.text(x, "slide 0-d");
        Due.is("slides below 0 are none", 0, x.run(0, 1));
        Due.text(x, "slide (d>2)*g");
        Due.heaps(x, 0, 0);
        x.heap(0, 9, 10);
        x.sea(3, 3);
        // 9 gives 3 to 10; 10, three more than 11, may give one alone.
        Due.is("by g", 4, x.run(0, 1));
        Due.is("sand(0, 9)", 7, x.sand(0, 9));
        Due.is("sand(0, 10)", 2, x.sand(0, 10));
        Due.is("sand(0, 11)", 1, x.sand(0, 11));
        Due.text(x, "lift h/2");
        x.sea(0, 11);
        x.sea(3, 20);
        Due.text(x, "slide 0");
        Due.heaps(x, 0, 0);
        x.heap(0, 13, 7);
        int tick = x.told(0, 1);
        Due.is("lifts by h", 3, x.run(0, 1));
        Due.is("where they come", 3, x.sand(0, tick % 2 == 0 ? 0 : 2));
    }

    private static void runWithoutReach() {
        SandRipples x = new SandRipples();
        x.floor(0);
        x.sea(0, 0);
        Due.is("lifts with no reach are not moved", 0, x.run(0, 9));
        Due.sandIs("lifts with no reach", x, 0, 20);
        x.turns(0, 2);
        Due.is("a blown floor reaches one", 48, x.run(0, 1));
        x.turns(0, 5);
        x.sea(2, 1);
        Due.is("a crossed floor on ticks 10 and 11", 48, x.run(0, 2));
    }

    private static void crest() {
        SandRipples x = new SandRipples();
        x.floor(0);
        Due.is("crest of even sand", Due.NONE, x.crest(0, 0));
        x.heap(0, 0, 30);
        x.heap(0, 4, 25);
        x.heap(0, 5, 25);
        x.heap(0, 23, 29);
        Due.is("crest(0, 0)", 0, x.crest(0, 0));
        Due.is("crest(0, 1)", 4, x.crest(0, 1));
        Due.is("crest(0, 2)", Due.NONE, x.crest(0, 2));
        Due.is("crest(0, MAX)", Due.NONE, x.crest(0, Integer.MAX_VALUE));
        Due.is("crest(0, -1)", Due.BAD, x.crest(0, -1));
        Due.is("crest(0, MIN)", Due.BAD, x.crest(0, Integer.MIN_VALUE));
        Due.is("crest(1, 0)", Due.BAD, x.crest(1, 0));
        Due.is("crest(-1, 0)", Due.BAD, x.crest(-1, 0));
        Due.heaps(x, 0, 1, 0);
        Due.is("the twelfth", 22, x.crest(0, 11));
        Due.is("a thirteenth", Due.NONE, x.crest(0, 12));
    }

    private static void apart() {
        SandRipples x = new SandRipples();
        Due.is("apart(0) without floors", Due.BAD, x.apart(0));
        x.floor(0);
        Due.is("apart of even sand", Due.NONE, x.apart(0));
        Due.heaps(x, 0, 0);
        for (int n = 1; n <= 12; n++) {
            x.heap(0, 2 * n - 1, 1);
            Due.is("apart with " + n, 2400 / n, x.apart(0));
        }
        Due.is("apart(-1)", Due.BAD, x.apart(-1));
    }

    private static void flat() {
        SandRipples x = new SandRipples();
        x.floor(0);
        Due.is("flat(0, 0)", 1, x.flat(0, 0));
        x.heap(0, 0, 24);
        Due.is("flat(0, 3)", 0, x.flat(0, 3));
        Due.is("flat(0, 4)", 1, x.flat(0, 4));
        Due.heaps(x, 0, 20);
        x.heap(0, 23, 0);
        Due.is("flat(0, 19), round the ring", 0, x.flat(0, 19));
        Due.is("flat(0, 20)", 1, x.flat(0, 20));
        Due.is("flat(0, 99)", 1, x.flat(0, 99));
        for (int c = 0; c < 24; c++) {
            x.heap(0, c, c == 0 ? 10 : 58 - 2 * c);
        }
        Due.is("one step alone is steep", 0, x.flat(0, 45));
        Due.is("one step alone is steep", 1, x.flat(0, 46));
        for (int d : new int[] {-1, 100, Integer.MIN_VALUE, Integer.MAX_VALUE}) {
            Due.is("flat(0, " + d + ")", Due.BAD, x.flat(0, d));
            Due.is("flat(" + d + ", 0)", Due.BAD, x.flat(d, 0));
        }
    }

    private static void soon() {
        Due.sentence("SOON for n: after how many TICKS (0 .. 100) there are n CRESTS or more for the first time");
        SandRipples x = new SandRipples();
        x.floor(2);
        Due.is("soon(0, 0)", 0, x.soon(0, 0));
        Due.is("soon(0, 1) of even sand", Due.NONE, x.soon(0, 1));
        Due.text(x, "lift h>1");
        Due.text(x, "slide 0");
        x.sea(0, 1);
        Due.heaps(x, 0, 0);
        x.heap(0, 0, 4);
        // A reach of two, upwards. Cells 0, 2, 4 hold 4 0 0; 3 1 0; 2 2 0; 1 2 1; 1 1 2; 1 1 1 and 1 on cell 6.
        int[] due = {0, 0, 1, 3, 5, Due.NONE};
        for (int n = 0; n < due.length; n++) {
            Due.is("soon(0, " + n + ")", due[n], x.soon(0, n));
        }
        Due.is("nothing changes", 0, x.told(0, 1));
        Due.is("nothing changes", 4, x.sand(0, 0));
        Due.is("soon(0, 24)", Due.NONE, x.soon(0, 24));
        for (int n : new int[] {-1, 25, Integer.MIN_VALUE, Integer.MAX_VALUE}) {
            Due.is("soon(0, " + n + ")", Due.BAD, x.soon(0, n));
            Due.is("soon(" + n + ", 0)", Due.BAD, x.soon(n, 0));
        }
        soonAtTheLastTick();
    }

    /** Cell 0 gives cell 2 a grain with each tick, until that one has as many as cell 3. */
    private static void soonAtTheLastTick() {
        SandRipples x = new SandRipples();
        x.floor(2);
        Due.text(x, "lift h>200");
        Due.text(x, "slide 0");
        x.sea(0, 1);
        Due.heaps(x, 0, 0);
        for (int i = 0; i < 8; i++) {
            x.heap(0, 23, 99);
            x.foot(0, 23, 99);
            x.heap(0, 22, 0);
        }
        Due.is("sand(0, 0)", 400, x.sand(0, 0));
        x.heap(0, 3, 99);
        x.heap(0, 4, 99);
        x.heap(0, 5, 20);
        x.foot(0, 5, 20);
        x.heap(0, 6, 0);
        Due.is("sand(0, 4)", 109, x.sand(0, 4));
        Due.is("crests", 2, x.told(0, 5));
        Due.is("soon, 99 grains", 99, x.soon(0, 3));
        x.heap(0, 2, 1);
        x.foot(0, 2, 1);
        Due.is("soon, 100 grains", 100, x.soon(0, 3));
        x.heap(0, 2, 1);
        x.foot(0, 2, 1);
        Due.is("soon, 101 grains", Due.NONE, x.soon(0, 3));
    }

    private static void period() {
        Due.sentence("PERIOD: after how many TICKS (1 .. 100) all SAND is as it is now for the first time");
        SandRipples x = new SandRipples();
        x.floor(2);
        x.sea(3, 20);
        Due.is("period of even sand", 1, x.period(0));
        Due.heaps(x, 0, 0);
        x.heap(0, 7, 2);
        int[] periods = {24, 12, 8, 6, 24, 4, 24, 3, 8, 12, 24, 2};
        for (int far = 0; far < 12; far++) {
            x.sea(0, far);
            Due.is("period with a reach of " + (far + 1), periods[far], x.period(0));
        }
        Due.is("nothing changes", 0, x.told(0, 1));
        Due.is("nothing changes", 2, x.sand(0, 7));
        x.sea(0, 3);
        x.heap(0, 7, 3);
        Due.is("never", Due.NONE, x.period(0));
        x.turns(0, 0);
        x.heap(0, 7, 2);
        Due.is("there and back", 2, x.period(0));
        Due.is("period(1)", Due.BAD, x.period(1));
        Due.is("period(-1)", Due.BAD, x.period(-1));
        periodAtTheLastTick();
    }

    /** Cells that lie across the ring give each other grains by a law; two such couples meet behind a known time. */
    private static void periodAtTheLastTick() {
        SandRipples x = new SandRipples();
        x.floor(2);
        x.sea(0, 11);
        Due.text(x, "lift h*14-h*14/20*20");
        Due.text(x, "slide 0");
        Due.heaps(x, 0, 0);
        couple(x, 0, 8, 25);
        Due.is("a couple", 9, x.period(0));
        couple(x, 5, 8, 85);
        Due.is("9 and 33", 99, x.period(0));
        couple(x, 0, 4, 9);
        couple(x, 5, 8, 65);
        Due.is("4 and 25", 100, x.period(0));
        couple(x, 0, 8, 15);
        couple(x, 5, 8, 45);
        Due.is("6 and 17", Due.NONE, x.period(0));
    }

    private static void couple(SandRipples x, int cell, int v, int w) {
        x.heap(0, cell, v);
        x.heap(0, cell + 12, w);
    }
}
