/** Promises 39 to 43: rows, images. */
public final class RowsTest {
    public static void main(String[] args) {
        tell();
        check();
        checkOfTheImage();
        checkIsRefused();
        keepAndBack();
        imageAndTexts();
        count();
        Due.end();
    }

    private static void tell() {
        SandRipples x = new SandRipples();
        for (int i = 1; i <= 60; i++) {
            Due.is("tell", i, x.tell(Integer.MIN_VALUE + i));
        }
        Due.is("a number too many", Due.FULL, x.tell(0));
        Due.is("numbers that wait", 60, x.count(6));
        x.check(0, 1);
        Due.is("numbers that wait", 0, x.count(6));
        Due.is("tell", 1, x.tell(0));
    }

    /** A heap that sheds a grain with each tick, four grains at first; each lies where it fell. */
    private static SandRipples shedding() {
        SandRipples x = new SandRipples();
        x.floor(0);
        x.floor(2);
        x.sea(0, 1);
        Due.text(x, "lift h>1");
        Due.text(x, "slide 0");
        Due.heaps(x, 1, 0);
        x.heap(1, 0, 4);
        x.keep();
        return x;
    }

    private static int checked(SandRipples x, int floor, int n, int... told) {
        for (int v : told) {
            x.tell(v);
        }
        int answer = x.check(floor, n);
        Due.is("numbers that wait behind check", 0, x.count(6));
        return answer;
    }

    private static void check() {
        SandRipples x = shedding();
        // Cells 0, 2, 4 hold 4; 3 1; 2 2; 1 2 1; 1 1 2; then 1 1 1 and 1 on cell 6.
        Due.is("right", 0, checked(x, 1, 5, 1, 2, 1, 2, 2, 3, 1, 3, 1, 4));
        Due.is("right, fewer", 0, checked(x, 1, 2, 1, 2, 1, 2));
        Due.is("the first floor", 0, checked(x, 0, 2, 24, 0, 24, 0));
        Due.is("none", 1, checked(x, 1, 1));
        Due.is("one is missing", 2, checked(x, 1, 1, 1));
        Due.is("one too many", 3, checked(x, 1, 1, 1, 2, 1));
        Due.is("two too many", 3, checked(x, 1, 1, 1, 2, 1, 2));
        Due.is("the first is wrong", 1, checked(x, 1, 2, 0, 2, 1, 2));
        Due.is("the second is wrong", 2, checked(x, 1, 2, 1, 1, 1, 2));
        Due.is("the third is wrong", 3, checked(x, 1, 2, 1, 2, 2, 2));
        Due.is("the last is wrong", 4, checked(x, 1, 2, 1, 2, 1, 3));
        Due.is("two are missing", 3, checked(x, 1, 2, 1, 2));
        int[] sixty = new int[60];
        int[] first = {1, 2, 1, 2, 2, 3, 1, 3, 1, 4};
        for (int i = 0; i < 60; i++) {
            sixty[i] = i < first.length ? first[i] : i % 2 == 0 ? 0 : 4;
        }
        Due.is("thirty ticks", 0, checked(x, 1, 30, sixty));
        Due.is("twenty-nine of them", 59, checked(x, 1, 29, sixty));
        sixty[59] = 5;
        Due.is("the sixtieth is wrong", 60, checked(x, 1, 30, sixty));
        Due.is("nothing changes", 0, x.told(1, 1));
    }

    private static void checkOfTheImage() {
        SandRipples x = shedding();
        x.floor(5);
        x.heap(1, 0, 0);
        x.sea(0, 7);
        x.turns(1, 0);
        Due.text(x, "lift 0");
        Due.is("by the image", 0, checked(x, 1, 5, 1, 2, 1, 2, 2, 3, 1, 3, 1, 4));
        Due.is("a floor that the image has not", Due.BAD, checked(x, 2, 1, 1, 2));
        Due.is("now is as it was", 7, x.count(1));
        Due.is("now is as it was", 0, x.told(1, 0));
        x.keep();
        Due.is("by the image that is kept then", 0, checked(x, 1, 1, 0, 0));
    }

    private static void checkIsRefused() {
        SandRipples x = new SandRipples();
        x.floor(0);
        Due.is("no image", Due.NO, checked(x, 0, 1, 1));
        Due.is("no image, no floor", Due.NO, checked(x, 9, 30, 1));
        Due.is("n is 0", Due.BAD, checked(x, 0, 0, 1));
        Due.is("n is 31", Due.BAD, checked(x, 9, 31, 1));
        x.keep();
        for (int v : new int[] {-1, 1, 6, Integer.MIN_VALUE, Integer.MAX_VALUE}) {
            Due.is("check(" + v + ", 1)", Due.BAD, checked(x, v, 1, 1));
        }
        for (int v : new int[] {-1, 0, 31, Integer.MIN_VALUE, Integer.MAX_VALUE}) {
            Due.is("check(0, " + v + ")", Due.BAD, checked(x, 0, v, 1));
        }
    }

    private static void keepAndBack() {
        SandRipples x = new SandRipples();
        Due.is("back() without an image", Due.NO, x.back());
        Due.is("keep() without floors", 0, x.keep());
        x.floor(3);
        x.run(0, 7);
        Due.is("back() to no floors", 0, x.back());
        Due.is("no floors", Due.BAD, x.told(0, 0));
        Due.is("a floor is new", 0, x.floor(4));
        Due.is("a floor is new", 4, x.told(0, 0));
        Due.is("a floor is new", 0, x.told(0, 1));
        Due.sandIs("a floor is new", x, 0, 20);
        x.heap(0, 7, 3);
        x.run(0, 2);
        x.seed(99);
        x.sea(3, 9);
        int sand = x.sand(0, 7);
        Due.is("keep()", 1, x.keep());
        for (int i = 0; i < 3; i++) {
            x.floor(1);
            x.turns(0, 0);
            x.deal(0);
            x.run(0, 5);
            for (int what = 0; what < 4; what++) {
                x.sea(what, 7);
            }
            x.sheet(i, 0, 1);
            x.lay(i, 3, i);
            x.tell(i);
            x.feed(0, 0, 0);
            Due.is("back()", 1, x.back());
            int[] due = {1, 3, 2, 5, 9, 0, i + 1, 12 * i + 12, 99};
            for (int what = 0; what < due.length; what++) {
                Due.is("count(" + what + ")", due[what], x.count(what));
            }
            Due.is("kind", 4, x.told(0, 0));
            Due.is("tick", 2, x.told(0, 1));
            Due.is("sand", sand, x.sand(0, 7));
            Due.is("sheets stay", 1, x.mark(i, 0, 1));
            Due.is("slots stay", i, x.rest(i, 100));
        }
    }

    private static void imageAndTexts() {
        SandRipples x = new SandRipples();
        x.floor(0);
        Due.text(x, "lift 5");
        x.keep();
        Due.text(x, "lift 6");
        x.back();
        Due.is("texts", 1, x.count(5));
        Due.is("lift", 5, x.lift(0, 0, 0));
        Due.is("told anew", 1, Due.text(x, "mark 7"));
        Due.is("key", 2, x.textTold(1, 0));
        Due.is("lift", 5, x.lift(0, 0, 0));
        for (int i = 2; i < 14; i++) {
            Due.is("text", i, Due.text(x, "lift " + i));
        }
        Due.is("full", Due.FULL, Due.text(x, "lift 1"));
        x.back();
        Due.is("no longer full", 1, Due.text(x, "lift 9"));
        Due.is("lift", 9, x.lift(0, 0, 0));
    }

    private static void count() {
        SandRipples x = new SandRipples();
        x.floor(0);
        x.sea(0, 6);
        x.sea(1, 7);
        x.sea(2, 8);
        x.sea(3, 9);
        Due.text(x, "lift 1");
        Due.text(x, "lift 1");
        x.tell(0);
        x.tell(0);
        x.tell(0);
        x.feed(0, 0, 0);
        x.trim(5);
        x.seed(-12);
        int[] due = {1, 6, 7, 8, 9, 2, 3, 5, -12};
        for (int what = 0; what < due.length; what++) {
            Due.is("count(" + what + ")", due[what], x.count(what));
        }
        for (int v : new int[] {-1, 9, Integer.MIN_VALUE, Integer.MAX_VALUE}) {
            Due.is("count(" + v + ")", Due.BAD, x.count(v));
        }
    }
}
