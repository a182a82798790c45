/** Terms, part 5: sheets, slots, findings, the image, the ticks told. A sentence of the document each. */
public final class Terms5Test {
    public static void main(String[] args) {
        fourSheets();
        placesOfSheets();
        shorts();
        floats();
        noNumber();
        poured();
        read();
        copiedAsTheyWere();
        fiveSlots();
        slotHoldsOneThing();
        floorForGood();
        sheetOfItsOwn();
        numbers();
        findings();
        imageKeeps();
        imageLeaves();
        imageAgainAndAgain();
        imageKeptAnew();
        imageOfAnEmptyObject();
        imageAndLaterFloors();
        imageAndTexts();
        ticksTold();
        ticksToldByTheImage();
        Due.end();
    }

    /** A place of a sheet, by way of the last slot. */
    private static int place(SandRipples x, int sheet, int place) {
        x.lay(4, 2, sheet);
        return x.item(4, place);
    }

    private static void fourSheets() {
        Due.sentence("SHEETS 0 .. 3 .. or MISSING (at first)");
        SandRipples x = new SandRipples();
        x.floor(0);
        for (int s = 0; s < 4; s++) {
            Due.is("mark on " + s, Due.NOTHING, x.mark(s, 0, 0));
            Due.is("pour of " + s, Due.NOTHING, x.pour(s, 0));
            Due.is("reads of " + s, Due.NOTHING, x.reads(s, 0));
            Due.is("seen by " + s, Due.NOTHING, x.seen(s, 0, 0));
            Due.is("copy of " + s, Due.NOTHING, x.copy(s, 0, s, 0, 0));
            Due.is("lay of " + s, Due.NOTHING, x.lay(0, 2, s));
        }
        for (int s = 0; s < 4; s++) {
            Due.is("sheet " + s, s + 1, x.sheet(s, s % 2, s + 1));
        }
        for (int s = 0; s < 4; s++) {
            Due.is("the last place of " + s, 1, x.mark(s, s, 40 + s));
            Due.is("one behind it", Due.INDEX, x.mark(s, s + 1, 0));
        }
        for (int s = 0; s < 4; s++) {
            Due.is("each has its own places", 40 + s, place(x, s, s));
        }
        Due.is("sheet(1, -1, 0)", 0, x.sheet(1, -1, 0));
        Due.is("it is missing", Due.NOTHING, x.mark(1, 0, 0));
        Due.is("another one is not", 1, x.mark(2, 0, 0));
    }

    private static void placesOfSheets() {
        Due.sentence("with 0 to 24 places");
        for (int sort = 0; sort < 2; sort++) {
            SandRipples x = new SandRipples();
            x.floor(0);
            for (int n = 0; n <= 24; n++) {
                Due.is("sheet of " + n, n, x.sheet(2, sort, n));
                Due.is("one behind the last", Due.INDEX, x.mark(2, n, 5));
                Due.is("the last", n == 0 ? Due.INDEX : 1, x.mark(2, n - 1, 5));
                Due.is("one ahead of the first", Due.INDEX, x.mark(2, -1, 5));
                Due.is("the last in a slot", n == 0 ? Due.INDEX : 5, place(x, 2, n - 1));
                Due.is("one behind it in a slot", Due.INDEX, x.item(4, n));
            }
            Due.is("sheet of 25", Due.BAD, x.sheet(2, sort, 25));
            Due.is("sheet of MAX", Due.BAD, x.sheet(2, sort, Integer.MAX_VALUE));
            Due.is("sheet of -1", Due.SIZE, x.sheet(2, sort, -1));
            Due.is("sheet of MIN", Due.SIZE, x.sheet(2, sort, Integer.MIN_VALUE));
            Due.is("what is refused changes nothing", 5, place(x, 2, 23));
        }
    }

    private static void shorts() {
        Due.sentence("of shorts its lowest 16 bits");
        SandRipples x = new SandRipples();
        x.sheet(0, 0, 1);
        int[][] all = {
            {0, 0}, {32767, 32767}, {32768, -32768}, {65535, -1}, {65536, 0}, {65537, 1}, {-1, -1}, {-32768, -32768},
            {-32769, 32767}, {-65536, 0}, {Integer.MAX_VALUE, -1}, {Integer.MIN_VALUE, 0}, {100000, 100000 - 131072},
            {Due.NONE - 1, (short) (Due.NONE - 1)}, {Due.NONE + 1, (short) (Due.NONE + 1)}};
        for (int[] a : all) {
            Due.is("mark " + a[0], 1, x.mark(0, 0, a[0]));
            Due.is("it holds", a[1], place(x, 0, 0));
        }
        Due.is("mark NONE", Due.KIND, x.mark(0, 0, Due.NONE));
        Due.is("it holds", (short) (Due.NONE + 1), place(x, 0, 0));
    }

    private static void floats() {
        Due.sentence("of floats v, -99999 .. 99999");
        SandRipples x = new SandRipples();
        x.sheet(0, 1, 1);
        for (int v : new int[] {0, 1, -1, 32768, -32769, 65536, 99998, 99999, -99998, -99999}) {
            Due.is("mark " + v, 1, x.mark(0, 0, v));
            Due.is("it holds", v, place(x, 0, 0));
        }
        for (int v : new int[] {100000, -100000, Integer.MAX_VALUE, Integer.MIN_VALUE, Due.NONE + 1, Due.NONE - 1, Due.BAD}) {
            Due.is("mark " + v, Due.BAD, x.mark(0, 0, v));
            Due.is("it holds", -99999, place(x, 0, 0));
        }
    }

    private static void noNumber() {
        Due.sentence("A place of floats may be NO NUMBER");
        SandRipples x = new SandRipples();
        x.floor(0);
        x.sheet(0, 1, 24);
        for (int c = 0; c < 24; c++) {
            Due.is("mark NONE", 1, x.mark(0, c, Due.NONE));
        }
        Due.is("none pours", 0, x.pour(0, 0));
        Due.is("none reads", Due.NONE, x.reads(0, 0));
        Due.is("none is seen", 0, x.seen(0, 0, 5));
        Due.is("it is no item", Due.KIND, place(x, 0, 7));
        x.mark(0, 23, 21);
        Due.is("the last one reads", 23, x.reads(0, 0));
        Due.is("the last one pours", 1, x.pour(0, 0));
        Due.is("sand(0, 23)", 21, x.sand(0, 23));
        Due.is("sand(0, 22)", 20, x.sand(0, 22));
        Due.is("copy", 2, x.copy(0, 22, 0, 0, 2));
        Due.is("no number comes along", Due.KIND, place(x, 0, 0));
        Due.is("a number comes along", 21, place(x, 0, 1));
    }

    private static void poured() {
        Due.sentence("(each held within 0 .. 99; NO NUMBER, and beyond the SHEET: it stays): how many CELLS have other SAND then");
        int[][] all = {{-99999, 0}, {-1, 0}, {0, 0}, {1, 1}, {20, 20}, {98, 98}, {99, 99}, {100, 99}, {99999, 99}, {Due.NONE, 20}};
        for (int[] a : all) {
            for (int n : new int[] {1, 23, 24}) {
                SandRipples x = new SandRipples();
                x.floor(3);
                x.sheet(0, 1, n);
                x.mark(0, n - 1, a[0]);
                int others = n - 1 + (a[1] == 20 ? 0 : 1);
                Due.is("pour " + n + " places, the last " + a[0], others, x.pour(0, 0));
                Due.is("the last", a[1], x.sand(0, n - 1));
                Due.is("all sand", a[1] + 20 * (24 - n), x.told(0, 2));
                Due.is("pour once more", 0, x.pour(0, 0));
                Due.is("kind", 3, x.told(0, 0));
                Due.is("tick", 0, x.told(0, 1));
            }
        }
        SandRipples x = new SandRipples();
        x.floor(0);
        x.sheet(0, 0, 0);
        Due.is("pour no places", 0, x.pour(0, 0));
        Due.sandIs("poured no places", x, 0, 20);
    }

    private static void read() {
        Due.sentence("The first place (of numbers alone) at which a SHEET is not SAND of that CELL");
        for (int c = 0; c < 24; c++) {
            SandRipples x = new SandRipples();
            x.floor(0);
            Due.heaps(x, 0, 0);
            x.sheet(0, 1, 24);
            Due.is("all are alike", Due.NONE, x.reads(0, 0));
            x.mark(0, c, -1);
            Due.is("what would be held within 0 .. 99 is not alike", c, x.reads(0, 0));
            x.heap(0, c, 99);
            x.mark(0, c, 99);
            Due.is("all are alike", Due.NONE, x.reads(0, 0));
            x.mark(0, c, 100);
            Due.is("what would be held within 0 .. 99 is not alike", c, x.reads(0, 0));
            x.mark(0, 23, 5);
            Due.is("the first of them", c, x.reads(0, 0));
            x.mark(0, c, Due.NONE);
            Due.is("of numbers alone", c == 23 ? Due.NONE : 23, x.reads(0, 0));
            x.sheet(0, 0, c);
            Due.is("beyond the sheet", Due.NONE, x.reads(0, 0));
            x.sheet(0, 0, c + 1);
            Due.is("its last place", c, x.reads(0, 0));
        }
        SandRipples x = new SandRipples();
        x.floor(0);
        x.heap(0, 4, 99);
        x.heap(0, 5, 2);
        x.foot(0, 5, 2);
        x.sheet(0, 1, 24);
        for (int c = 0; c < 24; c++) {
            x.mark(0, c, c == 4 ? 100 : c == 5 ? 0 : c == 6 ? 21 : 20);
        }
        Due.is("a cell of 100", Due.NONE, x.reads(0, 0));
    }

    private static void copiedAsTheyWere() {
        Due.sentence("So many places of a SHEET come to another one (or the same), as they were: many");
        for (int place = 0; place <= 6; place++) {
            for (int at = 0; at <= 6; at++) {
                SandRipples x = new SandRipples();
                x.sheet(0, 0, 6);
                for (int i = 0; i < 6; i++) {
                    x.mark(0, i, i + 1);
                }
                int many = 6 - Math.max(place, at);
                Due.is("one more", Due.INDEX, x.copy(0, place, 0, at, many + 1));
                Due.is("copy from " + place + " to " + at, many, x.copy(0, place, 0, at, many));
                for (int i = 0; i < 6; i++) {
                    boolean came = i >= at && i < at + many;
                    Due.is("place " + i, came ? i - at + place + 1 : i + 1, place(x, 0, i));
                }
            }
        }
        SandRipples x = new SandRipples();
        x.sheet(0, 1, 24);
        x.sheet(1, 1, 24);
        x.mark(0, 0, Due.NONE);
        x.mark(0, 23, -99999);
        Due.is("all of them", 24, x.copy(0, 0, 1, 0, 24));
        Due.is("the first", Due.KIND, place(x, 1, 0));
        Due.is("the last", -99999, place(x, 1, 23));
        Due.is("none", 0, x.copy(0, 24, 1, 24, 0));
    }

    private static void fiveSlots() {
        Due.sentence("SLOTS 0 .. 4 each hold nothing (at first)");
        SandRipples x = new SandRipples();
        for (int s = 0; s < 5; s++) {
            Due.is("ask", Due.NOTHING, x.ask(s, 0));
            Due.is("item", Due.NOTHING, x.item(s, 0));
            Due.is("rest", Due.NOTHING, x.rest(s, 1));
            Due.is("what it held", 0, x.lay(s, 3, 10 + s));
        }
        for (int s = 0; s < 5; s++) {
            Due.is("each holds its own", 10 + s, x.rest(s, 100));
        }
        for (int s : new int[] {-1, 5, Integer.MIN_VALUE, Integer.MAX_VALUE}) {
            Due.is("ask", Due.BAD, x.ask(s, 0));
            Due.is("item", Due.BAD, x.item(s, 0));
            Due.is("rest", Due.BAD, x.rest(s, 1));
            Due.is("lay", Due.BAD, x.lay(s, 3, 1));
        }
    }

    private static void slotHoldsOneThing() {
        Due.sentence("SLOTS .. each hold nothing .., a FLOOR .., a SHEET .., or a number");
        SandRipples x = new SandRipples();
        x.floor(4);
        x.sheet(1, 0, 1);
        x.mark(1, 0, 77);
        int[] k = {99, 0, 1, 55};
        int[] asked = {Due.NOTHING, 10, Due.KIND, Due.KIND};
        int[] items = {Due.NOTHING, Due.KIND, 77, Due.KIND};
        int[] rests = {Due.NOTHING, Due.KIND, Due.KIND, 5};
        int held = 0;
        // Each thing comes behind each, itself too.
        for (int thing : new int[] {0, 0, 1, 0, 2, 0, 3, 1, 1, 2, 1, 3, 2, 2, 3, 3, 0}) {
            Due.is("what it held", held, x.lay(0, thing, k[thing]));
            Due.is("ask", asked[thing], x.ask(0, 2));
            Due.is("item", items[thing], x.item(0, 0));
            Due.is("rest", rests[thing], x.rest(0, 10));
            held = thing;
        }
    }

    private static void floorForGood() {
        Due.sentence("a FLOOR (as it is then, for good)");
        SandRipples x = new SandRipples();
        x.keep();
        x.floor(1);
        x.heap(0, 3, 50);
        x.lay(0, 1, 0);
        x.heap(0, 3, 60);
        Due.is("behind heap", 31, x.ask(0, 1));
        x.turns(0, 5);
        Due.is("behind turns", 31, x.ask(0, 1));
        Due.is("behind turns, no crossed one", Due.KIND, x.ask(0, 5));
        x.run(0, 60);
        x.press(0, 0);
        Due.is("behind run and press", 31, x.ask(0, 1));
        x.back();
        Due.is("behind back, though there is no such floor", 31, x.ask(0, 0));
        x.floor(2);
        Due.is("behind another floor of its number", 31, x.ask(0, 0));
        Due.is("behind another floor of its number", Due.KIND, x.ask(0, 2));
        x.lay(1, 1, 0);
        Due.is("another slot", 0, x.ask(1, 2));
        Due.is("the slot itself", 31, x.ask(0, 0));
    }

    private static void sheetOfItsOwn() {
        Due.sentence("a SHEET (a row of its own, as it was then)");
        SandRipples x = new SandRipples();
        x.sheet(0, 1, 3);
        x.mark(0, 0, 11);
        x.mark(0, 1, Due.NONE);
        x.lay(0, 2, 0);
        x.mark(0, 0, 22);
        x.mark(0, 1, 33);
        x.lay(1, 2, 0);
        Due.is("behind mark", 11, x.item(0, 0));
        Due.is("behind mark", Due.KIND, x.item(0, 1));
        Due.is("the other slot", 22, x.item(1, 0));
        x.copy(0, 2, 0, 0, 1);
        Due.is("behind copy", 11, x.item(0, 0));
        x.sheet(0, 0, 24);
        Due.is("behind sheet", 11, x.item(0, 0));
        Due.is("behind sheet", Due.INDEX, x.item(0, 3));
        x.sheet(0, -1, 0);
        Due.is("behind its end", 11, x.item(0, 0));
        Due.is("the other slot", 33, x.item(1, 1));
        x.sheet(0, 0, 0);
        x.lay(0, 2, 0);
        Due.is("a sheet of no places", Due.INDEX, x.item(0, 0));
    }

    private static void numbers() {
        Due.sentence("The rest of the number in a SLOT by n; / cuts towards 0");
        SandRipples x = new SandRipples();
        int[] some = {0, 1, -1, 7, -7, Integer.MAX_VALUE, Integer.MIN_VALUE, Due.NONE};
        for (int v : some) {
            x.lay(2, 3, v);
            for (int n : some) {
                long due = n == 0 ? Due.NO : (long) v - (long) v / n * n;
                Due.is("rest of " + v + " by " + n, due, x.rest(2, n));
            }
        }
    }

    private static void findings() {
        Due.sentence("FINDINGS: NOTHING: ..; INDEX: ..; SIZE: ..; KIND: it is none (of a KIND, a number, or another thing)");
        SandRipples x = new SandRipples();
        x.floor(1);
        Due.is("it is not of that kind", Due.KIND, x.as(0, 2));
        Due.is("a sheet is missing", Due.NOTHING, x.mark(0, 0, 0));
        Due.is("a slot holds nothing", Due.NOTHING, x.item(0, 0));
        Due.is("a number of places is below 0", Due.SIZE, x.sheet(0, 0, -1));
        x.sheet(0, 1, 2);
        Due.is("there is no such place", Due.INDEX, x.mark(0, 2, 0));
        x.mark(0, 1, Due.NONE);
        x.lay(0, 2, 0);
        Due.is("it is no number", Due.KIND, x.item(0, 1));
        Due.is("it is no floor", Due.KIND, x.ask(0, 0));
        Due.is("it is no number", Due.KIND, x.rest(0, 1));
    }

    /** Two floors, a sea, z and texts, that are told nowhere else in this test. */
    private static SandRipples kept() {
        SandRipples x = new SandRipples();
        x.floor(3);
        x.floor(5);
        x.seed(31);
        x.deal(1);
        x.run(1, 3);
        x.sea(0, 6);
        x.sea(1, 7);
        x.sea(2, 8);
        x.sea(3, 9);
        Due.text(x, "lift h/3");
        Due.text(x, "mark c+1");
        Due.is("keep()", 2, x.keep());
        return x;
    }

    private static void changeAll(SandRipples x) {
        x.turns(0, 2);
        x.turns(1, 4);
        Due.text(x, "slide 2");
        Due.text(x, "lift 1");
        Due.text(x, "mark 5");
        x.run(0, 5);
        x.run(1, 4);
        x.heap(0, 0, 77);
        for (int what = 0; what < 4; what++) {
            x.sea(what, 1);
        }
        x.floor(1);
        x.deal(2);
    }

    private static void imageKeeps() {
        Due.sentence("AN IMAGE keeps all but SHEETS, SLOTS, numbers that wait, THE TAPE; all can become as it is");
        SandRipples x = kept();
        Whole was = Whole.ofNow(x);
        changeAll(x);
        Due.is("floors now", 3, x.count(0));
        Due.is("texts now", 5, x.count(5));
        Due.is("back()", 2, x.back());
        Whole.same("as the image", was, Whole.ofNow(x));
        Due.is("a floor that came later", Due.BAD, x.told(2, 0));
        Due.is("a text that came later", Due.BAD, x.textTold(2, 0));
        Due.is("the next floor", 2, x.floor(0));
        Due.is("the next text", 2, Due.text(x, "slide 1"));
    }

    private static void imageLeaves() {
        Due.sentence("all but SHEETS, SLOTS, numbers that wait, THE TAPE");
        SandRipples x = kept();
        for (int i = 0; i < 4; i++) {
            x.sheet(i, i % 2, 2);
            x.mark(i, 1, 10 + i);
        }
        for (int i = 0; i < 4; i++) {
            x.lay(i, 3, 20 + i);
        }
        x.lay(3, 1, 1);
        int worth = x.told(1, 7);
        x.tell(4);
        x.tell(5);
        Due.tape(x, "mark h");
        x.keep();
        x.mark(0, 1, 8);
        x.sheet(3, -1, 0);
        x.lay(0, 3, 6);
        x.lay(1, 0, 0);
        x.tell(6);
        x.trim(4);
        x.back();
        Due.is("a place is as it became", 8, place(x, 0, 1));
        Due.is("a place is as it was", 11, place(x, 1, 1));
        Due.is("a place is as it was", 12, place(x, 2, 1));
        Due.is("a sheet that is missing stays so", Due.NOTHING, x.mark(3, 0, 0));
        Due.is("a slot is as it became", 6, x.rest(0, 100));
        Due.is("a slot is as it became", Due.NOTHING, x.rest(1, 100));
        Due.is("a slot is as it was", 22, x.rest(2, 100));
        Due.is("a slot is as it was", worth, x.ask(3, 5));
        Due.is("numbers that wait", 3, x.count(6));
        Due.is("bytes of the tape", 4, x.count(7));
        Due.is("the tape", -104, x.text());
        imageLeavesEach();
    }

    /** Neither keep nor back touches any sheet or slot. */
    private static void imageLeavesEach() {
        SandRipples x = kept();
        for (int i = 0; i < 4; i++) {
            x.sheet(i, i % 2, 2);
            x.mark(i, 1, 10 + i);
        }
        for (int i = 0; i < 5; i++) {
            x.lay(i, 3, 20 + i);
        }
        x.keep();
        x.back();
        for (int i = 0; i < 5; i++) {
            Due.is("slot " + i, 20 + i, x.rest(i, 100));
        }
        for (int i = 0; i < 4; i++) {
            Due.is("sheet " + i, 10 + i, place(x, i, 1));
        }
    }

    private static void imageAgainAndAgain() {
        Due.sentence("all can become as it is (again and again)");
        SandRipples x = kept();
        Whole was = Whole.ofNow(x);
        for (int i = 0; i < 3; i++) {
            changeAll(x);
            Due.is("back()", 2, x.back());
            Due.is("back() once more", 2, x.back());
            Whole.same("as the image, time " + i, was, Whole.ofNow(x));
        }
    }

    private static void imageKeptAnew() {
        Due.sentence("AN IMAGE is kept");
        SandRipples x = kept();
        changeAll(x);
        Whole was = Whole.ofNow(x);
        Due.is("keep()", 3, x.keep());
        x.run(0, 2);
        x.sea(0, 11);
        Due.text(x, "mark 1");
        Due.is("back()", 3, x.back());
        Whole.same("as the later image", was, Whole.ofNow(x));
    }

    private static void imageOfAnEmptyObject() {
        Due.sentence("AN IMAGE is kept: how many FLOORS. .. NO: there is none");
        SandRipples x = new SandRipples();
        Due.is("back() without one", Due.NO, x.back());
        x.floor(0);
        Due.is("back() without one", Due.NO, x.back());
        Due.is("nothing changes", 1, x.count(0));
        SandRipples y = new SandRipples();
        Due.is("keep() of no floors", 0, y.keep());
        for (int f = 0; f < 6; f++) {
            Due.is("floor", f, y.floor(f));
        }
        Due.text(y, "lift 1");
        Due.is("back() to no floors", 0, y.back());
        Due.is("floors", 0, y.count(0));
        Due.is("texts", 0, y.count(5));
        Due.is("why(0)", Due.NONE, y.why(0));
        Due.is("check of no floor", Due.BAD, y.check(0, 1));
        Due.is("floor", 0, y.floor(5));
    }

    private static void imageAndLaterFloors() {
        Due.sentence("BAD: no such FLOOR in it");
        SandRipples x = kept();
        x.floor(0);
        Due.is("a floor of now alone", Due.BAD, x.check(2, 1));
        x.keep();
        Due.is("a floor of the image", 1, x.check(2, 1));
        Due.is("no floor", Due.BAD, x.check(3, 1));
        SandRipples y = new SandRipples();
        y.floor(0);
        y.floor(0);
        y.keep();
        SandRipples z = new SandRipples();
        z.keep();
        z.floor(0);
        Due.is("two floors of the image", 1, y.check(1, 1));
        Due.is("no floors of the image", Due.BAD, z.check(0, 1));
    }

    private static void imageAndTexts() {
        Due.sentence("AN IMAGE keeps all but .. (TEXTS are kept)");
        SandRipples x = new SandRipples();
        x.floor(0);
        x.keep();
        Due.text(x, "lift 7");
        Due.is("lift by a text", 7, x.lift(0, 0, 0));
        x.back();
        Due.is("lift without one", 2, x.lift(0, 0, 0));
        for (int i = 0; i < 14; i++) {
            Due.is("text", i, Due.text(x, "lift " + i));
        }
        Due.is("full", Due.FULL, Due.text(x, "lift 1"));
        x.keep();
        Due.is("full", Due.FULL, Due.text(x, "lift 1"));
        x.back();
        Due.is("full", Due.FULL, Due.text(x, "lift 1"));
        Due.is("the last text", 13, x.lift(0, 0, 0));
    }

    private static int checked(SandRipples x, int floor, int n, int[] told, int many) {
        for (int i = 0; i < many; i++) {
            x.tell(told[i]);
        }
        return x.check(floor, n);
    }

    private static void ticksTold() {
        Due.sentence("THE TICKS TOLD of a FLOOR: of n TICKS, one behind the other, by THE IMAGE: MOVED; CRESTS behind it");
        SandRipples x = kept();
        int[] due = new int[61];
        for (int i = 0; i < 30; i++) {
            due[2 * i] = x.run(1, 1);
            due[2 * i + 1] = x.told(1, 5);
        }
        for (int n : new int[] {1, 2, 30}) {
            Due.is("right, of " + n, 0, checked(x, 1, n, due, 2 * n));
            Due.is("the last is missing, of " + n, 2 * n, checked(x, 1, n, due, 2 * n - 1));
        }
        Due.is("one too many", 3, checked(x, 1, 1, due, 3));
        Due.is("none", 1, checked(x, 1, 30, due, 0));
        for (int wrong : new int[] {0, 1, 2, 3, 4, 5}) {
            due[wrong]++;
            Due.is("number " + wrong + " is wrong", 1 + wrong, checked(x, 1, 3, due, 6));
            due[wrong]--;
        }
        Due.is("two are wrong", 2, checked(x, 1, 2, new int[] {due[0], -1, -1, due[3]}, 4));
    }

    private static void ticksToldByTheImage() {
        Due.sentence("THE TICKS TOLD of a FLOOR .. by THE IMAGE");
        SandRipples x = kept();
        int[] due = new int[8];
        for (int i = 0; i < 4; i++) {
            due[2 * i] = x.run(0, 1);
            due[2 * i + 1] = x.told(0, 5);
        }
        changeAll(x);
        Due.is("by the image, whatever is now", 0, checked(x, 0, 4, due, 8));
        Due.is("again, since it stays as it is", 0, checked(x, 0, 4, due, 8));
        x.back();
        Due.is("and behind back", 0, checked(x, 0, 4, due, 8));
        for (int i = 0; i < 4; i++) {
            Due.is("it runs so", due[2 * i], x.run(0, 1));
        }
    }
}
