/** What it is: an object is used for at most 512 calls; all of them answer as due, and no object touches another. */
public final class UseTest {
    private static final int CALLS = 512;

    public static void main(String[] args) {
        Due.sentence("An object is used for at most 512 calls after it has been made");
        ticks();
        heaps();
        draws();
        texts();
        rows();
        images();
        sheets();
        Due.sentence("A new object: as told; no FLOORS");
        twoObjects();
        Due.end();
    }

    private static void ticks() {
        SandRipples x = new SandRipples();
        x.floor(0);
        for (int i = 0; i < CALLS - 2; i++) {
            Due.is("run " + i, 60 * 48, x.run(0, 60));
        }
        Due.is("tick", 60 * (CALLS - 2), x.told(0, 1));
    }

    /** Each foot brings fifty grains to cell 23: by far the most that a cell can have, pressed without a wrap. */
    private static void heaps() {
        SandRipples x = new SandRipples();
        x.floor(0);
        x.press(0, 0);
        int times = (CALLS - 6) / 2;
        for (int i = 0; i < times; i++) {
            x.heap(0, 22, 99);
            Due.is("foot " + i, 99, x.foot(0, 22, 99));
        }
        Due.is("the greatest", 50 * times, x.told(0, 3));
        Due.is("all sand", 99 * times, x.told(0, 2));
        int less = 50 * times - 50 * times * 99 / 100 + 49 * times - 49 * times * 99 / 100;
        Due.is("press", less, x.press(0, 99));
        Due.is("all sand then", 99 * times - less, x.told(0, 2));
    }

    private static void draws() {
        SandRipples x = new SandRipples();
        x.floor(0);
        int z = 1;
        for (int i = 0; i < CALLS - 2; i++) {
            int all = 0;
            for (int c = 0; c < 24; c++) {
                z = z * 1103515245 + 12345;
                all += (z >>> 8) % 40;
            }
            Due.is("deal " + i, all, x.deal(0));
        }
        Due.is("z", z, x.count(8));
    }

    private static void texts() {
        SandRipples x = new SandRipples();
        // "lift", " h+(", "s)/2": four calls each time, with a fault in each second one.
        for (int i = 0; i < CALLS / 4; i++) {
            Due.is("feed", 12, x.feed(0x6c696674, 0x20682b28, 0x73292f32));
            Due.is("trim", 12 - i % 2, x.trim(12 - i % 2));
            Due.is("text " + i, i % 2 == 1 ? -111 : i / 2 < 14 ? i / 2 : Due.FULL, x.text());
            Due.is("texts", Math.min(14, i / 2 + 1), x.count(5));
        }
    }

    private static void rows() {
        SandRipples x = new SandRipples();
        x.floor(0);
        x.keep();
        for (int i = 0; i < (CALLS - 2) / 3; i++) {
            Due.is("tell", 1, x.tell(48));
            Due.is("tell", 2, x.tell(0));
            Due.is("check " + i, 0, x.check(0, 1));
        }
    }

    private static void images() {
        SandRipples x = new SandRipples();
        x.floor(0);
        for (int i = 0; i < (CALLS - 2) / 5; i++) {
            x.heap(0, 0, i % 100);
            Due.is("keep " + i, 1, x.keep());
            x.run(0, 2);
            Due.is("back " + i, 1, x.back());
            Due.is("sand", i % 100, x.sand(0, 0));
        }
        Due.is("tick", 0, x.told(0, 1));
    }

    private static void sheets() {
        SandRipples x = new SandRipples();
        for (int i = 0; i < CALLS / 4; i++) {
            int n = 1 + i % 24;
            Due.is("sheet", n, x.sheet(i % 4, i % 2, n));
            Due.is("mark", 1, x.mark(i % 4, n - 1, i));
            Due.is("lay", i < 5 ? 0 : 2, x.lay(i % 5, 2, i % 4));
            Due.is("item", i, x.item(i % 5, n - 1));
        }
    }

    /** What is done to one object is not seen in another, nor in one that is made behind it. */
    private static void twoObjects() {
        SandRipples x = new SandRipples();
        SandRipples y = new SandRipples();
        for (int f = 0; f < 6; f++) {
            x.floor(f);
            x.deal(f);
        }
        x.sea(0, 0);
        Due.text(x, "lift h");
        x.sheet(0, 0, 3);
        x.lay(0, 3, 5);
        x.tell(9);
        x.keep();
        x.feed(1, 2, 3);
        for (SandRipples other : new SandRipples[] {y, new SandRipples()}) {
            int[] due = {0, 3, 2, 5, 4, 0, 0, 0, 1};
            for (int what = 0; what < due.length; what++) {
                Due.is("count(" + what + ") of another object", due[what], other.count(what));
            }
            Due.is("why(0)", Due.NONE, other.why(0));
            Due.is("mark", Due.NOTHING, other.mark(0, 0, 0));
            Due.is("rest", Due.NOTHING, other.rest(0, 1));
            Due.is("back()", Due.NO, other.back());
            Due.is("floor(5)", 0, other.floor(5));
            Due.sandIs("a new floor", other, 0, 20);
            Due.is("lift", 2, other.lift(0, 0, 0));
        }
        Due.is("floors", 6, x.count(0));
        Due.is("rest", 5, x.rest(0, 100));
    }
}
