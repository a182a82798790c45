/** Promises 25 to 29: texts. */
public final class TextsTest {
    public static void main(String[] args) {
        feed();
        trim();
        tapeIsUsedUp();
        texts();
        faults();
        depths();
        values();
        oneBehindAnother();
        wraps();
        marks();
        textTold();
        full();
        why();
        Due.end();
    }

    private static void feed() {
        SandRipples x = new SandRipples();
        for (int i = 1; i <= 8; i++) {
            Due.is("feed", 12 * i, x.feed(i, -i, Integer.MIN_VALUE));
            Due.is("bytes", 12 * i, x.count(7));
        }
        Due.is("a ninth feed", Due.FULL, x.feed(0, 0, 0));
        Due.is("bytes", 96, x.count(7));
        x.trim(85);
        Due.is("feed behind 85 bytes", Due.FULL, x.feed(0, 0, 0));
        x.trim(84);
        Due.is("feed behind 84 bytes", 96, x.feed(0, 0, 0));
        // "mark", " h-1", "+c  ": the highest byte comes first, the first number first.
        x.trim(0);
        x.feed(0x6d61726b, 0x20682d31, 0x2b632020);
        Due.is("text()", 0, x.text());
        // A text that goes on from one feed to the next.
        x.feed(0x6d61726b, 0x20682d31, 0x2b637c28);
        x.feed(0x31293d31, 0x20202020, 0x20202020);
        Due.is("text()", 1, x.text());
        Due.is("leaves", 5, x.textTold(1, 1));
    }

    private static void trim() {
        SandRipples x = new SandRipples();
        Due.is("trim(0)", 0, x.trim(0));
        Due.is("trim(1)", Due.BAD, x.trim(1));
        x.feed(0x6d61726b, 0x2068202b, 0);
        for (int n : new int[] {-1, 13, Integer.MIN_VALUE, Integer.MAX_VALUE}) {
            Due.is("trim(" + n + ")", Due.BAD, x.trim(n));
        }
        Due.is("bytes", 12, x.count(7));
        Due.is("trim(12)", 12, x.trim(12));
        Due.is("trim(6)", 6, x.trim(6));
        Due.is("bytes", 6, x.count(7));
        Due.is("trim(7)", Due.BAD, x.trim(7));
        Due.is("its first bytes are kept", 0, x.text());
    }

    private static void tapeIsUsedUp() {
        SandRipples x = new SandRipples();
        Due.is("an empty tape", -100, x.text());
        Due.text(x, "lift h");
        Due.is("bytes behind a text", 0, x.count(7));
        Due.is("the tape is empty", -100, x.text());
        Due.text(x, "lift k");
        Due.is("bytes behind a fault", 0, x.count(7));
        for (int i = 1; i < 14; i++) {
            Due.text(x, "lift h");
        }
        Due.is("one too many", Due.FULL, Due.text(x, "lift h"));
        Due.is("bytes behind one too many", 0, x.count(7));
    }

    private static void texts() {
        String[] all = {
            "lift h", "  lift  h  ", "lift(h)", "slide d>g", "mark c*h", "lift !h", "lift 0000", "lift 9999", "lift s|p",
            "lift (1<2)<3", "lift 1<2&3<4", "lift 1<2|3<4", "lift((1)=(2))>3", "mark!c", "slide 1 + 2 -3* 4/5", "lift 3",
            "lift !h+!h+!h+!h+!h+!h+!h+!h+!h", "lift (h)+(h)+(h)+(h)+(h)+(h)+(h)+(h)+(h)",
            "lift !!!!!!!!h+!!!!!!!!h", "lift ((((((((h))))))))*((((((((s))))))))", "lift !(!(!(!(!(!(!(!(h))))))))"};
        for (String s : all) {
            Due.is("'" + s + "'", 0, Due.text(new SandRipples(), s));
        }
        Due.is("of 96 bytes", 0, Due.text(new SandRipples(), "lift h" + "+h".repeat(45)));
        Due.is("of 96 bytes, a sign at the end", -196, Due.text(new SandRipples(), "lift  h" + "+h".repeat(44) + "+"));
    }

    private static void faults() {
        SandRipples x = new SandRipples();
        String[] at = {
            "0", "", "3", "   ", "0", "lif h", "4", "lift", "5", "lift ", "0", "liftx", "0", "lifth", "0", "lifts h",
            "4", "lift3", "7", "lift 3 h", "6", "lift 3h", "6", "lift h3", "5", "lift 12345", "5", "lift 00000",
            "5", "lift hs", "5", "lift d", "5", "lift c", "5", "lift g", "6", "slide h", "6", "slide p", "6", "slide c",
            "5", "mark s", "5", "mark p", "5", "mark d", "7", "lift h+", "8", "lift h+ ", "9", "lift h + *",
            "8", "lift 1<2<3", "10", "lift 1<2+3=4", "13", "lift (1<2&3>4=5)", "7", "lift (h", "6", "lift h)",
            "6", "lift ()", "5", "lift -1", "5", "lift +1", "0", "Lift h", "5", "lift H", "6", "lift h;", "6", "lift !",
            "7", "lift h !h", "7", "lift h (h)", "5", "lift lift", "7", "lift h lift", "0", "h", "0", "(lift h)",
            "2", "  !lift", "0", "3", "5", "lift ,", "6", "lift h\n", "4", "lift\th", "8", "lift h &", "7", "lift h&&h",
            "7", "lift h||h", "7", "lift 1<=2", "6", "lift h%2", "6", "lift (<)", "8", "lift (h))", "10", "lift ((h+s",
            "7", "lift 1 2", "0", "mar k", "5", "mark \u0000", "5", "lift \u00e9", "6", "lift h\u00ff",
            "7", "slide  12345+", "8", "mark (h)12", "0", "\u0001", "8", "lift 1 +12345", "0", "gift h", "0", "nark h",
            "0", "liftz", "0", "lifta", "5", "lift z", "5", "lift a", "0", "zlift h"};
        for (int i = 0; i < at.length; i += 2) {
            Due.is("'" + at[i + 1] + "'", -100 - Integer.parseInt(at[i]), Due.text(x, at[i + 1]));
        }
        Due.is("texts", 0, x.count(5));
    }

    private static void depths() {
        SandRipples x = new SandRipples();
        Due.is("nine !", -113, Due.text(x, "lift !!!!!!!!!h"));
        Due.is("nine (", -113, Due.text(x, "lift (((((((((h)))))))))"));
        Due.is("nine ! through (", -121, Due.text(x, "lift !(!(!(!(!(!(!(!(!h))))))))"));
        Due.is("nine ( through !", -121, Due.text(x, "lift !(!(!(!(!(!(!(!((h)))))))))"));
        Due.is("nine ! behind a sum", -115, Due.text(x, "lift h+!!!!!!!!!h"));
        Due.is("a ninth ! behind the eighth piece", 0, Due.text(x, "lift !!!!!!!!(h)+!h"));
        Due.is("a ninth ! within the eight", -116, Due.text(x, "lift !!!!!!!!(h+!h)"));
        Due.is("a ninth ( behind eight that are closed", 1, Due.text(x, "lift ((((((((h))))))))+(h)"));
        Due.is("a ninth ( behind one that is closed", -117, Due.text(x, "lift ((((((((h)+(((h"));
    }

    private static int value(String e) {
        SandRipples x = new SandRipples();
        x.floor(0);
        x.heap(0, 5, 40);
        Due.is("mark " + e, 0, Due.text(x, "mark " + e));
        return x.told(0, 10);
    }

    private static void values() {
        String[] all = {
            "1+2*3", "7", "10-3-2", "5", "20/3/2", "3", "7/2", "3", "(0-7)/2", "-3", "7/(0-2)", "-3", "5/0", "0",
            "0/0", "0", "1|0&0", "1", "(1|0)&0", "0", "2&3", "1", "2|0", "1", "0|0", "0", "0|4", "1", "4&0", "0",
            "!5", "0", "!0", "1", "!!7", "1", "!!0", "0", "!0+1", "2", "!(0+1)", "0", "!0*5", "5", "1<2", "1", "2<2", "0",
            "3<2", "0", "2=2", "1", "2=3", "0", "3>2", "1", "2>2", "0", "1+1=2", "1", "2=1+1", "1", "5&6=6", "1",
            "4=4&2", "1", "1|1<0", "1", "c", "5", "h", "40", "h-c*2", "30", "(h-c)*2", "70", "h/c*3", "24", "0-9999", "-99",
            "9999", "99", "0099", "99", "7", "7", "(0-1)&1", "1", "!(0-1)", "0", "0-1<0", "1", "3-(2-(1-5))", "-3",
            "2*(3+4)*5-60", "10", "1<2&2<3", "1", "1<2&3<3", "0", "8/(4/2)", "4", "1-1|0", "0", "h>39&h<41", "1",
            "0-100", "-99", "0-98", "-98", "100", "99", "1+2<3+4", "1", "(1<2)+(2<3)", "2", "(1<2)<3", "1",
            "(1|0)+1", "2", "(0|0)+5", "5", "2*(3|0)*4", "8", "(1&1)-3", "-2", "(2<3)*9", "9", "(7-2)*(1+1)", "10",
            "(0|0|2)", "1", "(5)", "5", "1|(0)", "1", "0-(1|1)", "-1", "0&1|1", "1", "1|1&0", "1"};
        for (int i = 0; i < all.length; i += 2) {
            Due.is(all[i], Integer.parseInt(all[i + 1]), value(all[i]));
        }
    }

    /** What one text leaves behind in the reader is not seen in the next one. */
    private static void oneBehindAnother() {
        SandRipples x = new SandRipples();
        x.floor(0);
        x.heap(0, 5, 40);
        Due.is("a text", 0, Due.text(x, "mark 1|2&3<4+5*6"));
        Due.is("its marks", 1, x.told(0, 10));
        Due.is("a fault", -113, Due.text(x, "mark 1|(2&!(7"));
        Due.is("a text", 1, Due.text(x, "mark 3"));
        Due.is("its marks", 3, x.told(0, 10));
        Due.is("a fault", -112, Due.text(x, "mark ((1+2)*"));
        Due.is("no bracket is open", -106, Due.text(x, "mark 3)"));
        Due.is("a text", 2, Due.text(x, "mark 4*c"));
        Due.is("its marks", 20, x.told(0, 10));
    }

    private static void wraps() {
        int v = 9999 * 9999 * 9999;
        Due.is("a product that wraps", within(v / 9999 / 999), value("9999*9999*9999/9999/999"));
        Due.is("a product that wraps", v % 7, value("9999*9999*9999-9999*9999*9999/7*7"));
        Due.is("the least int", 1, value("2048*1024*1024<0"));
        Due.is("the least int by -1", 1, value("2048*1024*1024/(0-1)<0"));
        Due.is("the least int less 1", 1, value("2048*1024*1024-1>0"));
    }

    private static int within(int v) {
        return Math.max(-99, Math.min(99, v));
    }

    private static void marks() {
        SandRipples x = new SandRipples();
        x.floor(0);
        Due.heaps(x, 0, 0);
        x.heap(0, 2, 99);
        x.heap(0, 3, 1);
        x.foot(0, 3, 1);
        x.heap(0, 3, 3);
        x.foot(0, 3, 2);
        Due.is("sand(0, 2)", 100, x.sand(0, 2));
        x.heap(0, 20, 7);
        x.heap(0, 4, 0);
        Due.is("marks without a text", 99 + 7, x.told(0, 10));
        Due.text(x, "mark c*10-40");
        Due.is("each is held by itself", -20 + 99, x.told(0, 10));
        Due.text(x, "mark h-200*(c=20)");
        Due.is("each is held by itself", 99 - 99, x.told(0, 10));
        Due.heaps(x, 0, 5);
        Due.is("without crests", 0, x.told(0, 10));
    }

    private static void textTold() {
        SandRipples x = new SandRipples();
        String[] all = {"mark h-c*2", "2 3", "slide !((7))", "1 1", "lift h+s+p+1", "0 4", "lift 1234", "0 1"};
        for (int i = 0; i < all.length; i += 2) {
            int text = i / 2;
            Due.is(all[i], text, Due.text(x, all[i]));
            String[] due = all[i + 1].split(" ");
            Due.is("key of " + all[i], Integer.parseInt(due[0]), x.textTold(text, 0));
            Due.is("leaves of " + all[i], Integer.parseInt(due[1]), x.textTold(text, 1));
        }
        for (int v : new int[] {-1, 4, Integer.MIN_VALUE, Integer.MAX_VALUE}) {
            Due.is("textTold(" + v + ", 0)", Due.BAD, x.textTold(v, 0));
            Due.is("textTold(0, " + v + ")", Due.BAD, x.textTold(0, v));
        }
        Due.is("textTold(0, 2)", Due.BAD, x.textTold(0, 2));
        Due.text(x, "slide 1+2+");
        Due.is("a fault leaves no text", Due.BAD, x.textTold(4, 0));
        Due.is("a fault leaves the others", 3, x.textTold(0, 1));
    }

    private static void full() {
        SandRipples x = new SandRipples();
        for (int i = 0; i < 14; i++) {
            Due.is("text " + i, i, Due.text(x, i % 2 == 0 ? "lift 1" : "mark 2"));
        }
        Due.is("a fifteenth", Due.FULL, Due.text(x, "slide 1"));
        Due.is("a fifteenth with a fault", -106, Due.text(x, "lift 1)"));
        Due.is("texts", 14, x.count(5));
        Due.is("slide has none", Due.NONE, x.why(1));
        Due.is("lift", 12, x.why(0));
    }

    private static void why() {
        SandRipples x = new SandRipples();
        x.floor(0);
        Due.text(x, "lift 3");
        Due.text(x, "slide 0");
        x.keep();
        Due.is("why(0)", 0, x.why(0));
        Due.is("why(1)", 1, x.why(1));
        Due.is("why(2)", Due.NONE, x.why(2));
        Due.text(x, "lift 4");
        Due.text(x, "mark 1");
        Due.is("why(0)", 2, x.why(0));
        Due.is("why(2)", 3, x.why(2));
        Due.is("the last one counts", 4, x.lift(0, 0, 0));
        Due.text(x, "lift 5+");
        Due.is("a fault changes nothing", 2, x.why(0));
        x.back();
        Due.is("why(0) as it was", 0, x.why(0));
        Due.is("why(2) as it was", Due.NONE, x.why(2));
        Due.is("the first one counts again", 3, x.lift(0, 0, 0));
        for (int v : new int[] {-1, 3, Integer.MIN_VALUE, Integer.MAX_VALUE}) {
            Due.is("why(" + v + ")", Due.BAD, x.why(v));
        }
    }
}
