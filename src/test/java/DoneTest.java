/** Promises 18 to 24: what else is done, what it was. */
public final class DoneTest {
    public static void main(String[] args) {
        foot();
        worm();
        press();
        unlike();
        turned();
        seen();
        seenByPlaces();
        best();
        Due.end();
    }

    private static void foot() {
        SandRipples x = new SandRipples();
        x.floor(0);
        Due.is("foot(0, 0, 0)", 0, x.foot(0, 0, 0));
        Due.sandIs("no foot", x, 0, 20);
        Due.is("foot(0, 0, 7)", 7, x.foot(0, 0, 7));
        Due.is("its cell", 13, x.sand(0, 0));
        Due.is("the next", 24, x.sand(0, 1));
        Due.is("the one ahead", 23, x.sand(0, 23));
        Due.is("foot(0, 23, 99)", 23, x.foot(0, 23, 99));
        Due.is("its cell", 0, x.sand(0, 23));
        Due.is("the next", 25, x.sand(0, 0));
        Due.is("the one ahead", 31, x.sand(0, 22));
        Due.is("foot(0, 23, 1) of no sand", 0, x.foot(0, 23, 1));
        Due.is("all sand", 480, x.told(0, 2));
        Due.is("tick", 0, x.told(0, 1));
        for (int v : new int[] {-1, 100, Integer.MIN_VALUE, Integer.MAX_VALUE}) {
            Due.is("foot(0, 0, " + v + ")", Due.BAD, x.foot(0, 0, v));
            Due.is("foot(0, " + v + ", 0)", Due.BAD, x.foot(0, v, 0));
            Due.is("foot(" + v + ", 0, 0)", Due.BAD, x.foot(v, 0, 0));
        }
        Due.is("foot(0, 24, 0)", Due.BAD, x.foot(0, 24, 0));
        Due.is("foot(1, 0, 0)", Due.BAD, x.foot(1, 0, 0));
    }

    private static void worm() {
        SandRipples x = new SandRipples();
        x.floor(0);
        int[] middles = {20, 21, 22, 21};
        for (int more = 0; more < 4; more++) {
            Due.heaps(x, 0, 20);
            x.heap(0, 1, 20 + more);
            Due.is("worm(0, 0) of " + (60 + more), middles[more], x.worm(0, 0));
            Due.is("its cell", middles[more], x.sand(0, 0));
            Due.is("the next", more == 3 ? 21 : 20, x.sand(0, 1));
            Due.is("the one ahead", more == 3 ? 21 : 20, x.sand(0, 23));
        }
        Due.heaps(x, 0, 0);
        x.heap(0, 0, 5);
        Due.is("worm(0, 23)", 3, x.worm(0, 23));
        Due.is("the next", 1, x.sand(0, 0));
        Due.is("the one ahead", 1, x.sand(0, 22));
        for (int v : new int[] {-1, 24, Integer.MIN_VALUE, Integer.MAX_VALUE}) {
            Due.is("worm(0, " + v + ")", Due.BAD, x.worm(0, v));
            Due.is("worm(" + v + ", 0)", Due.BAD, x.worm(v, 0));
        }
        Due.is("worm(1, 0)", Due.BAD, x.worm(1, 0));
    }

    private static void press() {
        SandRipples x = new SandRipples();
        x.floor(0);
        Due.heaps(x, 0, 99, 50, 1, 0);
        Due.is("press(0, 100)", 0, x.press(0, 100));
        Due.is("press(0, 67)", 6 * (33 + 17 + 1), x.press(0, 67));
        Due.sandIs("pressed", x, 0, 66, 33, 0, 0);
        Due.is("press(0, 101)", Due.BAD, x.press(0, 101));
        Due.is("press(0, -1)", Due.BAD, x.press(0, -1));
        Due.is("press(1, 0)", Due.BAD, x.press(1, 0));
        Due.is("press(-1, 0)", Due.BAD, x.press(-1, 0));
        Due.is("press(0, 0)", 6 * 99, x.press(0, 0));
        Due.sandIs("pressed", x, 0, 0);
    }

    private static void unlike() {
        SandRipples x = new SandRipples();
        x.floor(0);
        x.floor(5);
        Due.is("unlike(0, 1)", 0, x.unlike(0, 1));
        x.heap(0, 0, 1);
        x.heap(1, 0, 2);
        x.heap(1, 23, 3);
        Due.is("unlike(0, 1)", 2, x.unlike(0, 1));
        Due.is("unlike(1, 0)", 2, x.unlike(1, 0));
        Due.is("unlike(1, 1)", 0, x.unlike(1, 1));
        Due.heaps(x, 0, 0);
        Due.is("unlike(1, 0)", 24, x.unlike(1, 0));
        for (int v : new int[] {-1, 2, Integer.MIN_VALUE, Integer.MAX_VALUE}) {
            Due.is("unlike(0, " + v + ")", Due.BAD, x.unlike(0, v));
            Due.is("unlike(" + v + ", 0)", Due.BAD, x.unlike(v, 0));
        }
    }

    private static void turned() {
        SandRipples x = new SandRipples();
        x.floor(0);
        x.floor(0);
        x.heap(0, 3, 5);
        x.heap(1, 10, 5);
        // What lies on cell 3 of the one lies seven further on in the other.
        Due.is("turned(0, 1, 0)", 7, x.turned(0, 1, 0));
        Due.is("turned(0, 1, 1)", 0, x.turned(0, 1, 1));
        Due.is("turned(1, 0, 0)", 17, x.turned(1, 0, 0));
        x.heap(1, 11, 6);
        Due.is("turned(0, 1, 0)", 7, x.turned(0, 1, 0));
        Due.is("turned(0, 1, 1)", 1, x.turned(0, 1, 1));
        Due.is("turned(0, 0, 0)", 0, x.turned(0, 0, 0));
        Due.heaps(x, 0, 0);
        Due.is("all are unlike", 0, x.turned(0, 1, 0));
        Due.is("all are unlike", 24, x.turned(0, 1, 1));
        Due.heaps(x, 0, 1, 2, 3);
        Due.heaps(x, 1, 2, 3, 1);
        Due.is("the least of several", 2, x.turned(0, 1, 0));
        Due.is("the least of several", 1, x.turned(1, 0, 0));
        for (int v : new int[] {-1, 2, Integer.MIN_VALUE, Integer.MAX_VALUE}) {
            Due.is("turned(0, " + v + ", 0)", Due.BAD, x.turned(0, v, 0));
            Due.is("turned(" + v + ", 0, 0)", Due.BAD, x.turned(v, 0, 0));
            Due.is("turned(0, 0, " + v + ")", Due.BAD, x.turned(0, 0, v));
        }
    }

    private static void seen() {
        for (int far = 0; far < 12; far++) {
            SandRipples x = threeFloors(far);
            for (int c = 0; c < 24; c++) {
                x.mark(0, c, x.sand(1, c));
            }
            Due.is("the far that it was", far, x.seen(0, 0, 4));
            Due.is("nothing changes", 0, x.told(0, 1));
            Due.is("nothing changes", far, x.count(1));
            Due.is("nothing changes", 0, x.unlike(0, 2));
        }
    }

    /** Three floors with the same sand, the second one four ticks on. */
    private static SandRipples threeFloors(int far) {
        SandRipples x = new SandRipples();
        for (int f = 0; f < 3; f++) {
            x.floor(2);
            x.seed(5);
            x.deal(f);
        }
        x.sea(0, far);
        Due.text(x, "lift h/3");
        x.run(1, 4);
        x.sheet(0, 0, 24);
        return x;
    }

    private static void seenByPlaces() {
        SandRipples x = new SandRipples();
        x.floor(0);
        Due.is("seen by a missing sheet", Due.NOTHING, x.seen(0, 0, 0));
        x.sheet(0, 1, 0);
        Due.is("seen by no places", 0, x.seen(0, 0, 30));
        Due.heaps(x, 0, 0);
        x.heap(0, 0, 2);
        x.sea(3, 20);
        x.sheet(0, 1, 10);
        x.mark(0, 8, 90);
        x.mark(0, 0, Due.NONE);
        Due.is("seen(0, 0, 1)", 8, x.seen(0, 0, 1));
        Due.is("seen(0, 0, 0)", 0, x.seen(0, 0, 0));
        x.mark(0, 8, -90);
        x.mark(0, 0, 0);
        // Away from cell 0, and neither to 8 nor to another place of the sheet: to 10 is the first such way.
        Due.is("below 0", 10, x.seen(0, 0, 1));
        x.mark(0, 8, Due.NONE);
        Due.is("no number", 8, x.seen(0, 0, 1));
        x.sheet(1, 0, 1);
        Due.is("the least of several", 1, x.seen(1, 0, 1));
        for (int v : new int[] {-1, 31, Integer.MIN_VALUE, Integer.MAX_VALUE}) {
            Due.is("seen(0, 0, " + v + ")", Due.BAD, x.seen(0, 0, v));
            Due.is("seen(0, " + v + ", 0)", Due.BAD, x.seen(0, v, 0));
            Due.is("seen(" + v + ", 0, 0)", Due.BAD, x.seen(v, 0, 0));
        }
        Due.is("seen(4, 0, 0)", Due.BAD, x.seen(4, 0, 0));
        Due.is("seen(3, 1, 0)", Due.BAD, x.seen(3, 1, 0));
        Due.is("seen(3, 0, 31)", Due.BAD, x.seen(3, 0, 31));
        Due.is("seen(3, 0, 30)", Due.NOTHING, x.seen(3, 0, 30));
    }

    private static void best() {
        SandRipples x = new SandRipples();
        x.floor(2);
        x.sea(0, 1);
        Due.text(x, "lift (h=9)*(p=6)+(h=9)*(p=7)+(h=20)*p");
        Due.text(x, "slide 0");
        Due.heaps(x, 0, 0);
        x.heap(0, 0, 9);
        x.heap(0, 12, 9);
        // With a pace of 6 or 7 one grain of each heap comes to a crest of its own.
        Due.is("best(0, 1, 0)", 6, x.best(0, 1, 0));
        Due.is("best(0, 1, 1)", 4, x.best(0, 1, 1));
        Due.is("best(0, 0, 0)", 0, x.best(0, 0, 0));
        Due.is("best(0, 0, 1)", 2, x.best(0, 0, 1));
        Due.is("nothing changes", 0, x.told(0, 1));
        Due.is("nothing changes", 2, x.count(2));
        Due.is("nothing changes", 9, x.sand(0, 0));
        Due.heaps(x, 0, 0);
        Due.is("no crests", 0, x.best(0, 30, 1));
        Due.is("no crests", 0, x.best(0, 30, 0));
        x.heap(0, 0, 20);
        Due.text(x, "lift (h=20)*(p=9)");
        Due.is("the greatest pace", 9, x.best(0, 1, 0));
        for (int v : new int[] {-1, 31, Integer.MIN_VALUE, Integer.MAX_VALUE}) {
            Due.is("best(0, " + v + ", 0)", Due.BAD, x.best(0, v, 0));
            Due.is("best(" + v + ", 0, 0)", Due.BAD, x.best(v, 0, 0));
            Due.is("best(0, 0, " + v + ")", Due.BAD, x.best(0, 0, v));
        }
        Due.is("best(0, 0, 2)", Due.BAD, x.best(0, 0, 2));
        Due.is("best(1, 0, 0)", Due.BAD, x.best(1, 0, 0));
    }
}
