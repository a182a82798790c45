import java.lang.reflect.Method;

/**
 * Terms: a refused call answers, of several, the one that stands first with it, and changes nothing (but the tape and
 * the numbers that wait, where told). Each promise that refuses has its calls here, each on an object of its own.
 */
public final class RefusedTest {
    private static final int MIN = Integer.MIN_VALUE, MAX = Integer.MAX_VALUE;
    private static final int BAD = Due.BAD, NO = Due.NO, FULL = Due.FULL, NONE = Due.NONE;
    private static final int NOTHING = Due.NOTHING, KIND = Due.KIND, INDEX = Due.INDEX, SIZE = Due.SIZE;
    private static final int[] NO_FLOOR = {-1, 2, 6, MIN, MAX};
    private static final int[] NO_CELL = {-1, 24, MIN, MAX};
    private static final int[] NO_KIND = {-1, 6, MIN, MAX};
    private static final int[] NO_SHEET = {-1, 4, MIN, MAX};
    private static final int[] NO_SLOT = {-1, 5, MIN, MAX};

    private static Whole due;

    public static void main(String[] args) throws Exception {
        due = Whole.of(begun());
        floors();
        sand();
        ticks();
        done();
        thoughts();
        texts();
        sheets();
        marks();
        poursAndReads();
        copies();
        lays();
        slots();
        rows();
        questions();
        waitingIsUsedUp();
        tapeIsUsedUp();
        crammed();
        Due.end();
    }

    /**
     * Two floors, an image that is other than now, sheets of both sorts (one with no places, one missing), a slot of
     * each thing (one of nothing), a tape with a text and the right numbers that wait.
     */
    private static SandRipples begun() {
        SandRipples x = new SandRipples();
        x.floor(3);
        x.floor(2);
        x.seed(7);
        x.deal(0);
        x.deal(1);
        x.run(0, 1);
        x.sea(1, 3);
        Due.text(x, "lift h/2");
        Due.text(x, "mark c");
        x.keep();
        tellTwoTicks(x);
        x.heap(0, 3, 50);
        x.run(1, 1);
        x.sheet(0, 0, 4);
        x.mark(0, 0, 5);
        x.mark(0, 3, -7);
        x.sheet(1, 1, 3);
        x.mark(1, 0, NONE);
        x.mark(1, 2, 99999);
        x.sheet(2, 0, 0);
        x.lay(0, 1, 0);
        x.lay(1, 2, 1);
        x.lay(2, 3, -11);
        x.lay(3, 2, 0);
        Due.tape(x, "mark h+c");
        return x;
    }

    private static void tellTwoTicks(SandRipples x) {
        for (int i = 0; i < 2; i++) {
            x.tell(x.run(0, 1));
            x.tell(x.told(0, 5));
        }
        x.back();
    }

    private static int answer(SandRipples x, String name, int... a) throws Exception {
        for (Method m : SandRipples.class.getMethods()) {
            if (m.getName().equals(name) && m.getDeclaringClass() == SandRipples.class) {
                Object[] given = new Object[a.length];
                for (int i = 0; i < a.length; i++) {
                    given[i] = a[i];
                }
                return (Integer) m.invoke(x, given);
            }
        }
        return 0;
    }

    private static void refused(int want, String name, int... a) throws Exception {
        SandRipples x = begun();
        String call = name + java.util.Arrays.toString(a);
        Due.is(call, want, answer(x, name, a));
        Whole.same("behind " + call, due, Whole.of(x));
    }

    /** Refused with each of these numbers at one place of a call that is fine otherwise. */
    private static void eachRefused(int want, String name, int at, int[] wrong, int... fine) throws Exception {
        for (int v : wrong) {
            int[] a = fine.clone();
            a[at] = v;
            refused(want, name, a);
        }
    }

    private static int[] outside(int least, int most) {
        return new int[] {least - 1, most + 1, MIN, MAX};
    }

    private static void floors() throws Exception {
        Due.sentence("floor: BAD; FULL. told: BAD. as: BAD: floor, kind; KIND. turns: BAD. sea: BAD");
        eachRefused(BAD, "floor", 0, NO_KIND, 0);
        eachRefused(BAD, "told", 0, NO_FLOOR, 0, 0);
        eachRefused(BAD, "told", 1, outside(0, 10), 0, 0);
        eachRefused(BAD, "as", 0, NO_FLOOR, 0, 0);
        eachRefused(BAD, "as", 1, NO_KIND, 0, 0);
        eachRefused(BAD, "as", 0, NO_FLOOR, 0, 5);
        refused(KIND, "as", 0, 2);
        refused(KIND, "as", 1, 4);
        eachRefused(BAD, "turns", 0, NO_FLOOR, 0, 0);
        eachRefused(BAD, "turns", 1, NO_KIND, 0, 0);
        eachRefused(BAD, "sea", 0, outside(0, 3), 0, 1);
        eachRefused(BAD, "sea", 1, outside(0, 11), 0, 0);
        eachRefused(BAD, "sea", 1, outside(0, 9), 1, 0);
        eachRefused(BAD, "sea", 1, outside(0, 11), 2, 0);
        eachRefused(BAD, "sea", 1, outside(1, 20), 3, 0);
    }

    private static void sand() throws Exception {
        Due.sentence("sand: BAD. heap: .. (0 .. 99) .. BAD. deal: BAD");
        eachRefused(BAD, "sand", 0, NO_FLOOR, 0, 0);
        eachRefused(BAD, "sand", 1, NO_CELL, 0, 0);
        eachRefused(BAD, "heap", 0, NO_FLOOR, 0, 0, 1);
        eachRefused(BAD, "heap", 1, NO_CELL, 0, 0, 1);
        eachRefused(BAD, "heap", 2, outside(0, 99), 0, 0, 1);
        eachRefused(BAD, "deal", 0, NO_FLOOR, 0);
    }

    private static void ticks() throws Exception {
        Due.sentence("lift: BAD. run: n (1 .. 60) .. BAD. crest: BAD: floor, i below 0; NONE. apart: BAD. flat: d (0 .. 99) .. BAD");
        eachRefused(BAD, "lift", 0, NO_FLOOR, 0, 0, 0);
        eachRefused(BAD, "lift", 1, NO_CELL, 0, 0, 0);
        eachRefused(BAD, "lift", 2, outside(0, 1), 0, 0, 0);
        eachRefused(BAD, "run", 0, NO_FLOOR, 0, 1);
        eachRefused(BAD, "run", 1, outside(1, 60), 0, 1);
        eachRefused(BAD, "crest", 0, NO_FLOOR, 0, 0);
        eachRefused(BAD, "crest", 0, NO_FLOOR, 0, 99);
        eachRefused(BAD, "crest", 1, new int[] {-1, MIN}, 0, 0);
        eachRefused(NONE, "crest", 1, new int[] {12, 24, MAX}, 0, 0);
        eachRefused(BAD, "apart", 0, NO_FLOOR, 0);
        eachRefused(BAD, "flat", 0, NO_FLOOR, 0, 0);
        eachRefused(BAD, "flat", 1, outside(0, 99), 0, 0);
    }

    private static void done() throws Exception {
        Due.sentence("foot: n 0 .. 99 deep .. BAD. worm: BAD. press: h (0 .. 100) .. BAD. unlike: BAD. turned: BAD");
        eachRefused(BAD, "foot", 0, NO_FLOOR, 0, 0, 1);
        eachRefused(BAD, "foot", 1, NO_CELL, 0, 0, 1);
        eachRefused(BAD, "foot", 2, outside(0, 99), 0, 0, 1);
        eachRefused(BAD, "worm", 0, NO_FLOOR, 0, 0);
        eachRefused(BAD, "worm", 1, NO_CELL, 0, 0);
        eachRefused(BAD, "press", 0, NO_FLOOR, 0, 50);
        eachRefused(BAD, "press", 1, outside(0, 100), 0, 50);
        eachRefused(BAD, "unlike", 0, NO_FLOOR, 0, 1);
        eachRefused(BAD, "unlike", 1, NO_FLOOR, 0, 1);
        eachRefused(BAD, "turned", 0, NO_FLOOR, 0, 1, 0);
        eachRefused(BAD, "turned", 1, NO_FLOOR, 0, 1, 0);
        eachRefused(BAD, "turned", 2, outside(0, 1), 0, 1, 0);
    }

    private static void thoughts() throws Exception {
        Due.sentence("soon: n (0 .. 24) BAD; NONE. period: BAD; NONE. seen: k 0 .. 30 .. BAD; NOTHING. best: k (0 .. 30) .. BAD");
        eachRefused(BAD, "soon", 0, NO_FLOOR, 0, 0);
        eachRefused(BAD, "soon", 1, outside(0, 24), 0, 0);
        refused(NONE, "soon", 0, 24);
        refused(NONE, "soon", 1, 13);
        eachRefused(BAD, "period", 0, NO_FLOOR, 0);
        eachRefused(BAD, "seen", 0, NO_SHEET, 0, 0, 0);
        eachRefused(BAD, "seen", 1, NO_FLOOR, 0, 0, 0);
        eachRefused(BAD, "seen", 2, outside(0, 30), 0, 0, 0);
        refused(NOTHING, "seen", 3, 0, 0);
        refused(NOTHING, "seen", 3, 1, 30);
        eachRefused(BAD, "seen", 1, NO_FLOOR, 3, 0, 0);
        eachRefused(BAD, "seen", 2, outside(0, 30), 3, 0, 0);
        eachRefused(BAD, "best", 0, NO_FLOOR, 0, 0, 0);
        eachRefused(BAD, "best", 1, outside(0, 30), 0, 0, 0);
        eachRefused(BAD, "best", 2, outside(0, 1), 0, 0, 0);
    }

    private static void texts() throws Exception {
        Due.sentence("trim: BAD. textTold: BAD. why: BAD; NONE");
        eachRefused(BAD, "trim", 0, outside(0, 8), 0);
        eachRefused(BAD, "trim", 0, new int[] {96, 97}, 0);
        eachRefused(BAD, "textTold", 0, outside(0, 1), 0, 0);
        eachRefused(BAD, "textTold", 0, new int[] {13, 14}, 0, 0);
        eachRefused(BAD, "textTold", 1, outside(0, 1), 0, 0);
        eachRefused(BAD, "why", 0, outside(0, 2), 0);
        refused(NONE, "why", 1);
    }

    private static void sheets() throws Exception {
        Due.sentence("sheet: BAD: sheet, sort, n above 24; SIZE");
        for (int n : new int[] {-1, 0, 25, MIN}) {
            eachRefused(BAD, "sheet", 0, NO_SHEET, 0, 0, n);
            eachRefused(BAD, "sheet", 0, NO_SHEET, 0, -1, n);
            eachRefused(BAD, "sheet", 1, outside(-1, 1), 0, 0, n);
        }
        for (int sort = 0; sort < 2; sort++) {
            eachRefused(BAD, "sheet", 2, new int[] {25, MAX}, 0, sort, 0);
            eachRefused(SIZE, "sheet", 2, new int[] {-1, MIN}, 0, sort, 0);
        }
    }

    private static void marks() throws Exception {
        Due.sentence("mark: BAD: sheet; NOTHING; INDEX; KIND: NONE in a row of shorts; BAD: v of floats");
        for (int v : new int[] {0, NONE, 100000}) {
            eachRefused(BAD, "mark", 0, NO_SHEET, 0, 99, v);
            eachRefused(NOTHING, "mark", 1, new int[] {0, 23, -1, 24}, 3, 0, v);
            eachRefused(INDEX, "mark", 1, new int[] {-1, 4, 24, MIN, MAX}, 0, 0, v);
            eachRefused(INDEX, "mark", 1, new int[] {-1, 3, 24, MIN, MAX}, 1, 0, v);
            eachRefused(INDEX, "mark", 1, new int[] {-1, 0, 1}, 2, 0, v);
        }
        refused(KIND, "mark", 0, 0, NONE);
        refused(KIND, "mark", 0, 3, NONE);
        eachRefused(BAD, "mark", 2, outside(-99999, 99999), 1, 0, 0);
        eachRefused(BAD, "mark", 2, new int[] {NONE - 1, NONE + 1}, 1, 2, 0);
    }

    private static void poursAndReads() throws Exception {
        Due.sentence("pour: BAD; NOTHING. reads: BAD; NOTHING; NONE");
        for (String name : new String[] {"pour", "reads"}) {
            eachRefused(BAD, name, 0, NO_SHEET, 0, 0);
            eachRefused(BAD, name, 1, NO_FLOOR, 0, 0);
            eachRefused(BAD, name, 1, NO_FLOOR, 3, 0);
            refused(NOTHING, name, 3, 0);
            refused(NOTHING, name, 3, 1);
        }
        refused(NONE, "reads", 2, 0);
    }

    private static void copies() throws Exception {
        Due.sentence("copy: BAD; NOTHING; KIND: they are not of one sort; INDEX");
        for (int many : new int[] {0, 1, -1, 99}) {
            eachRefused(BAD, "copy", 0, NO_SHEET, 0, 0, 3, 0, many);
            eachRefused(BAD, "copy", 2, NO_SHEET, 3, 0, 0, 0, many);
            refused(NOTHING, "copy", 3, 0, 0, 0, many);
            refused(NOTHING, "copy", 0, 0, 3, 0, many);
            refused(NOTHING, "copy", 1, 99, 3, 99, many);
            refused(KIND, "copy", 0, 0, 1, 0, many);
            refused(KIND, "copy", 1, -1, 2, 99, many);
        }
        eachRefused(INDEX, "copy", 1, new int[] {-1, 4, 5, MIN, MAX}, 0, 0, 0, 1, 1);
        eachRefused(INDEX, "copy", 3, new int[] {-1, 4, 5, MIN, MAX}, 0, 0, 0, 1, 1);
        eachRefused(INDEX, "copy", 4, new int[] {-1, 4, MIN, MAX}, 0, 0, 0, 1, 1);
        eachRefused(INDEX, "copy", 4, new int[] {-1, 4, MIN, MAX}, 0, 1, 0, 0, 1);
        eachRefused(INDEX, "copy", 1, new int[] {-1, 5}, 0, 0, 0, 0, 0);
        eachRefused(INDEX, "copy", 3, new int[] {-1, 5}, 0, 0, 0, 0, 0);
        refused(INDEX, "copy", 0, 0, 2, 0, 1);
        refused(INDEX, "copy", 2, 0, 0, 0, 1);
    }

    private static void lays() throws Exception {
        Due.sentence("lay: BAD: slot, thing, k; NOTHING: that SHEET is MISSING");
        for (int thing = 0; thing < 4; thing++) {
            eachRefused(BAD, "lay", 0, NO_SLOT, 0, thing, 3);
        }
        eachRefused(BAD, "lay", 1, outside(0, 3), 0, 0, 0);
        eachRefused(BAD, "lay", 2, NO_FLOOR, 0, 1, 0);
        eachRefused(BAD, "lay", 2, NO_SHEET, 0, 2, 0);
        refused(NOTHING, "lay", 0, 2, 3);
        refused(NOTHING, "lay", 4, 2, 3);
    }

    private static void slots() throws Exception {
        Due.sentence("ask: BAD; NOTHING; KIND. item: BAD: slot; NOTHING; KIND; INDEX; KIND. rest: BAD: slot; NOTHING; KIND; NO");
        eachRefused(BAD, "ask", 0, NO_SLOT, 0, 0);
        eachRefused(BAD, "ask", 1, NO_KIND, 0, 0);
        eachRefused(BAD, "ask", 1, NO_KIND, 2, 0);
        eachRefused(BAD, "ask", 1, NO_KIND, 4, 0);
        eachRefused(NOTHING, "ask", 1, new int[] {0, 5}, 4, 0);
        eachRefused(KIND, "ask", 0, new int[] {1, 2, 3}, 0, 0);
        eachRefused(KIND, "ask", 1, new int[] {2, 4, 5}, 0, 0);
        for (int place : new int[] {-1, 0, 24}) {
            eachRefused(BAD, "item", 0, NO_SLOT, 0, place);
            refused(NOTHING, "item", 4, place);
            refused(KIND, "item", 0, place);
            refused(KIND, "item", 2, place);
        }
        eachRefused(INDEX, "item", 1, new int[] {-1, 3, 24, MIN, MAX}, 1, 0);
        eachRefused(INDEX, "item", 1, new int[] {-1, 4, 24, MIN, MAX}, 3, 0);
        refused(KIND, "item", 1, 0);
        for (int n : new int[] {0, 1}) {
            eachRefused(BAD, "rest", 0, NO_SLOT, 0, n);
            refused(NOTHING, "rest", 4, n);
            refused(KIND, "rest", 0, n);
            refused(KIND, "rest", 1, n);
        }
        refused(NO, "rest", 2, 0);
    }

    private static void rows() throws Exception {
        Due.sentence("count: BAD. back: NO: there is none");
        eachRefused(BAD, "count", 0, outside(0, 8), 0);
        SandRipples x = new SandRipples();
        x.floor(4);
        x.run(0, 3);
        Whole was = Whole.ofNow(x);
        Due.is("back()", NO, x.back());
        Whole.same("behind back() without an image", was, Whole.ofNow(x));
    }

    /** What only asks changes nothing either. */
    private static void questions() throws Exception {
        Due.sentence("what only tells, or is only thought, changes nothing");
        String[] all = {
            "told 0 10", "told 1 2", "as 0 1", "sand 0 3", "lift 0 3 0", "lift 0 3 1", "crest 0 1", "apart 0", "flat 0 5",
            "soon 0 3", "soon 1 24", "period 0", "period 1", "unlike 0 1", "turned 0 1 0", "turned 1 0 1", "seen 0 0 30",
            "seen 1 1 1", "best 0 30 0", "best 1 1 1", "textTold 1 1", "why 0", "reads 0 0", "reads 1 1", "ask 0 1",
            "item 1 2", "rest 2 4", "count 6", "trim 8", "copy 0 0 0 0 4", "copy 0 4 2 0 0", "foot 0 0 0", "press 1 100",
            "keep"};
        for (String call : all) {
            String[] words = call.split(" ");
            int[] a = new int[words.length - 1];
            for (int i = 0; i < a.length; i++) {
                a[i] = Integer.parseInt(words[i + 1]);
            }
            SandRipples x = begun();
            SandRipples y = begun();
            if (call.equals("keep")) {
                y.keep();
            }
            answer(x, words[0], a);
            Whole.same("behind " + call, Whole.of(y), Whole.of(x));
        }
    }

    private static void waitingIsUsedUp() throws Exception {
        Due.sentence("The numbers that wait (none do then, whatever is answered)");
        SandRipples none = begun();
        none.check(0, 2);
        Whole without = Whole.of(none);
        int[][] calls = {
            {0, 2, 0}, {0, 1, 3}, {0, 3, 5}, {0, 0, BAD}, {0, -1, BAD}, {0, 31, BAD}, {0, MIN, BAD}, {0, MAX, BAD}, {2, 1, BAD},
            {-1, 1, BAD}, {6, 30, BAD}, {MIN, 1, BAD}, {MAX, 1, BAD}, {-1, 0, BAD}, {9, 31, BAD}};
        for (int[] c : calls) {
            SandRipples x = begun();
            Due.is("numbers that wait", 4, x.count(6));
            Due.is("check(" + c[0] + ", " + c[1] + ")", c[2], x.check(c[0], c[1]));
            Due.is("numbers that wait behind it", 0, x.count(6));
            Whole.same("behind check(" + c[0] + ", " + c[1] + ")", without, Whole.of(x));
        }
        int[][] early = {{0, 1, NO}, {5, 30, NO}, {-1, 1, NO}, {0, 0, BAD}, {0, 31, BAD}, {-1, 31, BAD}};
        for (int[] c : early) {
            SandRipples x = new SandRipples();
            x.floor(0);
            x.tell(1);
            Due.is("check without an image", c[2], x.check(c[0], c[1]));
            Due.is("numbers that wait behind it", 0, x.count(6));
        }
    }

    private static void tapeIsUsedUp() throws Exception {
        Due.sentence("an act that reads it uses it up, whatever it answers");
        SandRipples none = begun();
        none.trim(0);
        Whole without = Whole.of(none);
        String[] faults = {"", "mark", "mark s", "mark h+", "lift 12345", "mark (", "marks"};
        int[] at = {0, 4, 5, 7, 5, 6, 0};
        for (int i = 0; i < faults.length; i++) {
            SandRipples x = begun();
            Due.tape(x, faults[i]);
            Due.is("text() of '" + faults[i] + "'", -100 - at[i], x.text());
            Due.is("bytes behind it", 0, x.count(7));
            Whole.same("behind text() of '" + faults[i] + "'", without, Whole.of(x));
        }
    }

    /** Six floors, fourteen texts, ninety-six bytes, sixty numbers. */
    private static SandRipples crammedOne() {
        SandRipples x = new SandRipples();
        for (int f = 0; f < 6; f++) {
            x.floor(f);
        }
        for (int i = 0; i < 14; i++) {
            Due.text(x, i % 2 == 0 ? "lift 3" : "mark 2");
        }
        x.keep();
        for (int i = 0; i < 60; i++) {
            x.tell(i);
        }
        Due.tape(x, "slide 1" + " ".repeat(89));
        return x;
    }

    private static void crammed() throws Exception {
        Due.sentence("FULL: one more FLOOR, TEXT, number, twelve bytes too many");
        Whole full = Whole.of(crammedOne());
        int[][] calls = {{FULL, 0}, {FULL, 5}, {BAD, 6}, {BAD, -1}};
        for (int[] c : calls) {
            SandRipples x = crammedOne();
            Due.is("floor(" + c[1] + ")", c[0], x.floor(c[1]));
            Whole.same("behind floor(" + c[1] + ")", full, Whole.of(x));
        }
        SandRipples fed = crammedOne();
        Due.is("feed", FULL, fed.feed(-1, -1, -1));
        Whole.same("behind feed", full, Whole.of(fed));
        SandRipples told = crammedOne();
        Due.is("tell", FULL, told.tell(7));
        Whole.same("behind tell", full, Whole.of(told));
        SandRipples text = crammedOne();
        Due.is("text()", FULL, text.text());
        SandRipples trimmed = crammedOne();
        trimmed.trim(0);
        Whole.same("behind text()", Whole.of(trimmed), Whole.of(text));
        SandRipples fault = crammedOne();
        fault.trim(6);
        Due.is("a fault stands ahead of FULL", -106, fault.text());
        Due.is("bytes", 0, fault.count(7));
    }
}
