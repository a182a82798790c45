/** Terms, part 4: the tape, texts, faults, what a text gives, which one counts. A sentence of the document each. */
public final class Terms4Test {
    private static final String[] KEYS = {"lift", "slide", "mark"};
    private static final String[] NAMES = {"hsp", "dg", "ch"};
    private static final String JOINS = "|&<=>+-*/";

    public static void main(String[] args) {
        fourteenTexts();
        ninetySixBytes();
        usedUp();
        keys();
        names();
        numbers();
        anyByteAtTheStart();
        anyByteAsPiece();
        anyByteAsJoin();
        anyByteAtTheEnd();
        anyByteBehindLetters();
        anyByteBehindTheKey();
        blanks();
        wordsNeedBlanks();
        endTooSoon();
        oneTestAlone();
        eightBrackets();
        eightNots();
        eachByItself();
        loosestFirst();
        leftToRight();
        wraps();
        byZero();
        oneOrZero();
        namesOfLift();
        namesOfSlide();
        namesOfMark();
        lastToldCounts();
        Due.end();
    }

    /** What a text of this answers, told to a new object. */
    private static void answers(int due, String s) {
        Due.is("'" + s + "'", due, Due.text(new SandRipples(), s));
    }

    private static void faultAt(int place, String s) {
        answers(-100 - place, s);
    }

    /** What E gives for the crest of 40 grains on cell 5. */
    private static void gives(int due, String e) {
        SandRipples x = new SandRipples();
        x.floor(0);
        x.heap(0, 5, 40);
        Due.is("'mark " + e + "'", 0, Due.text(x, "mark " + e));
        Due.is("what '" + e + "' gives", due, x.told(0, 10));
    }

    private static void fourteenTexts() {
        Due.sentence("TEXTS, 14 at most, numbered from 0");
        SandRipples x = new SandRipples();
        for (int i = 0; i < 14; i++) {
            Due.is("a text that is not there yet", Due.BAD, x.textTold(i, 0));
            Due.is("text " + i, i, Due.text(x, KEYS[i % 3] + " " + i));
            Due.is("its key", i % 3, x.textTold(i, 0));
            Due.is("texts", i + 1, x.count(5));
        }
        Due.is("a fifteenth", Due.FULL, Due.text(x, "lift 1"));
        Due.is("a fifteenth", Due.BAD, x.textTold(14, 0));
        Due.is("texts", 14, x.count(5));
    }

    private static void ninetySixBytes() {
        Due.sentence("THE TAPE (96 bytes at most");
        SandRipples x = new SandRipples();
        for (int i = 1; i <= 8; i++) {
            Due.is("feed", 12 * i, x.feed(0x20202020, 0x20202020, 0x20202020));
        }
        Due.is("one more", Due.FULL, x.feed(0, 0, 0));
        Due.is("bytes", 96, x.count(7));
        Due.is("all blank", -196, x.text());
        answers(0, "slide d" + "*d".repeat(44) + " ");
        faultAt(95, "slide d" + "*d".repeat(44) + ")");
        faultAt(96, "slide d" + "*d".repeat(44) + "*");
    }

    private static void usedUp() {
        Due.sentence("an act that reads it uses it up, whatever it answers");
        SandRipples x = new SandRipples();
        for (int i = 0; i < 16; i++) {
            Due.is("a text", i < 14 ? i : Due.FULL, Due.text(x, "mark c"));
            Due.is("bytes behind a text", 0, x.count(7));
            Due.is("a fault", -105, Due.text(x, "mark s"));
            Due.is("bytes behind a fault", 0, x.count(7));
        }
        Due.is("an empty tape", -100, x.text());
        Due.tape(x, "mark");
        x.keep();
        x.back();
        x.textTold(0, 0);
        x.why(2);
        Due.is("bytes behind calls that do not read it", 4, x.count(7));
    }

    private static void keys() {
        Due.sentence("KEY: lift | slide | mark");
        for (int key = 0; key < 3; key++) {
            answers(0, KEYS[key] + " 1");
            String k = KEYS[key];
            faultAt(0, k.substring(1) + " 1");
            faultAt(0, k.substring(0, k.length() - 1) + " 1");
            faultAt(0, k + "s 1");
            faultAt(0, k + k + " 1");
            faultAt(0, (char) (k.charAt(0) - 32) + k.substring(1) + " 1");
            faultAt(k.length() + 1, k + " " + k + " 1");
            faultAt(2, "  " + k + "x 1");
            for (int i = 0; i < k.length(); i++) {
                faultAt(0, k.substring(0, i) + "z" + k.substring(i + 1) + " 1");
            }
        }
        faultAt(0, "press 1");
    }

    private static void names() {
        Due.sentence("NAMES, each one letter: of lift h .., s .., p PACE; of slide d, g STEEP; of mark c the CELL, h SAND");
        for (int key = 0; key < 3; key++) {
            int at = KEYS[key].length() + 1;
            for (char c = 'a'; c <= 'z'; c++) {
                boolean is = NAMES[key].indexOf(c) >= 0;
                answers(is ? 0 : -100 - at, KEYS[key] + " " + c);
                faultAt(at, KEYS[key] + " " + c + c);
            }
            faultAt(at, KEYS[key] + " " + NAMES[key]);
        }
    }

    private static void numbers() {
        Due.sentence("NUMBER (1 to 4 digits)");
        for (String n : new String[] {"0", "9", "10", "99", "100", "999", "1000", "9999", "0000", "0009"}) {
            answers(0, "lift " + n);
            answers(0, "lift (" + n + ")");
        }
        for (String n : new String[] {"10000", "00000", "00001", "99999", "123456789012345678901234567890"}) {
            faultAt(5, "lift " + n);
            faultAt(8, "lift 1+(" + n + ")");
        }
        gives(9, "0009");
        gives(1, "9999=9998+1");
        gives(12, "0012");
    }

    private static boolean isLetter(int b) {
        return b >= 'a' && b <= 'z';
    }

    private static boolean isDigit(int b) {
        return b >= '0' && b <= '9';
    }

    private static void anyByteAtTheStart() {
        Due.sentence("at the ends, there may be blanks (byte 32)");
        for (int b = 0; b < 256; b++) {
            answers(b == ' ' ? 0 : -100, (char) b + "mark 1");
        }
    }

    private static void anyByteAsPiece() {
        Due.sentence("FAULT: the first byte of the first word or sign with which no TEXT goes on");
        for (int b = 0; b < 256; b++) {
            boolean piece = isDigit(b) || b == 'c' || b == 'h';
            boolean goesOn = b == '(' || b == '!' || b == ' ';
            answers(piece ? 0 : goesOn ? -106 : -105, "mark " + (char) b);
        }
    }

    private static void anyByteAsJoin() {
        Due.sentence("any other byte is a sign by itself");
        for (int b = 0; b < 256; b++) {
            answers(JOINS.indexOf(b) >= 0 ? 0 : b == ' ' ? -109 : -108, "mark (1)" + (char) b + "(1)");
        }
    }

    private static void anyByteAtTheEnd() {
        Due.sentence("FAULT: ..; the end (the place behind the last byte), if it comes too soon");
        for (int b = 0; b < 256; b++) {
            boolean text = b == ' ' || isDigit(b);
            answers(text ? 0 : JOINS.indexOf(b) >= 0 ? -107 : -106, "mark 1" + (char) b);
        }
    }

    private static void anyByteBehindLetters() {
        Due.sentence("A word is a row of letters a .. z, or of digits, as long as it goes; any other byte is a sign by itself");
        for (int b = 0; b < 256; b++) {
            answers(b == ' ' ? 0 : JOINS.indexOf(b) >= 0 ? -107 : isLetter(b) ? -105 : -106, "mark h" + (char) b);
        }
    }

    private static void anyByteBehindTheKey() {
        Due.sentence("A word is a row of letters a .. z, or of digits, as long as it goes; any other byte is a sign by itself");
        for (int b = 0; b < 256; b++) {
            boolean text = b == ' ' || b == '!';
            answers(text ? 0 : b == '(' ? -106 : isLetter(b) ? -100 : -104, "mark" + (char) b + "1");
        }
    }

    private static void blanks() {
        Due.sentence("Between words and signs, and at the ends, there may be blanks");
        answers(0, "   mark   !  (  1  |  2  )  &  c  <  3  +  4  *  h  /  5  -  6   ");
        answers(0, "mark!(1|2)&c<3+4*h/5-6");
        answers(0, "mark(c)");
        answers(0, "mark ! ! c");
        faultAt(7, "mark 1 2");
        faultAt(7, "mark c h");
        faultAt(2, "  mar k 1");
        faultAt(0, "li ft 1");
        faultAt(4, "mark\t1");
        faultAt(6, "mark 1\u00a0");
    }

    private static void wordsNeedBlanks() {
        Due.sentence("a word right behind another one needs one (a word that needs a blank ahead of it)");
        faultAt(4, "lift1");
        faultAt(4, "mark0");
        faultAt(5, "slide9999");
        faultAt(5, "slide12345");
        faultAt(6, " slide1 +");
        faultAt(0, "lifth");
        faultAt(0, "slided");
        faultAt(6, "mark 1c");
        faultAt(6, "mark c1");
        faultAt(6, "mark 1mark");
        answers(0, "lift 1");
        answers(0, "lift  h");
        answers(0, "lift(1)");
        answers(0, "lift!1");
    }

    private static void endTooSoon() {
        Due.sentence("the end (the place behind the last byte), if it comes too soon");
        String[] all = {
            "", " ", "        ", "lift", "lift ", "lift   ", "lift !", "lift (", "lift (1", "lift (1 ", "lift 1+", "lift 1+ ",
            "lift 1-", "lift 1*", "lift 1/", "lift 1<", "lift 1=", "lift 1>", "lift 1&", "lift 1|", "lift ((1)", "lift !!",
            "lift ((((((((1)))))))", "lift !(1", "lift 1+(", "lift 1<2&"};
        for (String s : all) {
            faultAt(s.length(), s);
        }
    }

    private static void oneTestAlone() {
        Due.sentence("TEST: SUM [ (< | = | >) SUM ]");
        for (char one : "<=>".toCharArray()) {
            for (char two : "<=>".toCharArray()) {
                faultAt(8, "mark 1" + one + "2" + two + "3");
                faultAt(12, "mark 1" + one + "2+3*4" + two + "5");
                faultAt(9, "mark (1" + one + "2" + two + "3)");
                faultAt(10, "mark 0|1" + one + "2" + two + "3");
                faultAt(9, "mark 1" + one + "!c" + two + "3");
                answers(0, "mark (1" + one + "2)" + two + "3");
                answers(0, "mark 1" + one + "(2" + two + "3)");
                answers(0, "mark 1" + one + "2&3" + two + "4");
                answers(0, "mark 1" + one + "2|3" + two + "4");
                answers(0, "mark 1+(2" + one + "3)" + two + "4");
            }
        }
        faultAt(7, "mark 1<=2");
        faultAt(7, "mark 1==2");
        faultAt(7, "mark 1<>2");
    }

    private static void eightBrackets() {
        Due.sentence("the ninth ( that would be open within others");
        answers(0, "lift " + "(".repeat(8) + "h" + ")".repeat(8));
        faultAt(13, "lift " + "(".repeat(9) + "h" + ")".repeat(9));
        faultAt(13, "lift " + "(".repeat(9));
        faultAt(21, "lift " + " (".repeat(8) + "(h");
        answers(0, "lift " + "(h)+".repeat(20) + "(h)");
        answers(0, "lift " + "(".repeat(8) + "h" + ")".repeat(8) + "+" + "(".repeat(8) + "h" + ")".repeat(8));
        answers(0, "lift " + "(".repeat(8) + "h)+(h" + ")".repeat(8));
        faultAt(17, "lift " + "(".repeat(8) + "h)+((h");
        faultAt(17, "lift 1+" + "(".repeat(8) + "h+(1");
        faultAt(29, "lift " + "1*(".repeat(8) + "(1");
    }

    private static void eightNots() {
        Due.sentence("the ninth ! likewise");
        answers(0, "lift " + "!".repeat(8) + "h");
        faultAt(13, "lift " + "!".repeat(9) + "h");
        faultAt(13, "lift " + "!".repeat(9));
        faultAt(21, "lift " + " !".repeat(8) + "!h");
        answers(0, "lift " + "!h+".repeat(20) + "!h");
        answers(0, "lift " + "!".repeat(8) + "h+" + "!".repeat(8) + "h");
        faultAt(23, "lift " + "!".repeat(8) + "h+" + "!".repeat(9) + "h");
        answers(0, "lift " + "!".repeat(8) + "(h)+!h");
        faultAt(16, "lift " + "!".repeat(8) + "(h+!h)");
        answers(0, "lift " + "!".repeat(7) + "(h+!h)");
    }

    private static void eachByItself() {
        Due.sentence("the ninth ( that would be open within others, the ninth ! likewise, each by itself");
        answers(0, "lift " + "!(".repeat(8) + "h" + ")".repeat(8));
        answers(0, "lift " + "(!".repeat(8) + "h" + ")".repeat(8));
        answers(0, "lift " + "!".repeat(8) + "(".repeat(8) + "h" + ")".repeat(8));
        answers(0, "lift " + "(".repeat(8) + "!".repeat(8) + "h" + ")".repeat(8));
        faultAt(21, "lift " + "!(".repeat(8) + "!h" + ")".repeat(8));
        faultAt(21, "lift " + "!(".repeat(8) + "(h)" + ")".repeat(8));
        faultAt(21, "lift " + "(!".repeat(8) + "!h" + ")".repeat(8));
        faultAt(21, "lift " + "(".repeat(8) + "!".repeat(8) + "(h)");
        faultAt(21, "lift " + "!".repeat(8) + "(".repeat(8) + "!h");
    }

    private static void loosestFirst() {
        Due.sentence("E, the loosest first: OR: AND { | AND }; AND: TEST { & TEST }; TEST: ..; SUM: ..; TERM: ..; PIECE: ..");
        gives(1, "1|0&0");
        gives(0, "(1|0)&0");
        gives(1, "0&0|1");
        gives(1, "5&4=4");
        gives(0, "(5&4)=4");
        gives(0, "4=4&0");
        gives(1, "3|2=2");
        gives(1, "2<1+2");
        gives(3, "(2<1)+3");
        gives(0, "1+2<3");
        gives(7, "1+2*3");
        gives(9, "(1+2)*3");
        gives(8, "10-4/2");
        gives(1, "!0*1");
        gives(0, "!(0+1)");
        gives(3, "!0+2");
        gives(1, "!1=0");
        gives(0, "!(1=0)&0");
        gives(2, "!0*2");
        gives(1, "!!5");
    }

    private static void leftToRight() {
        Due.sentence("SUM: TERM { (+ | -) TERM }; TERM: PIECE { (* | /) PIECE }");
        gives(3, "10-4-3");
        gives(9, "10-4+3");
        gives(5, "10-(4+1)");
        gives(2, "20/5/2");
        gives(8, "20/5*2");
        gives(2, "20/(5*2)");
        gives(6, "7/2*2");
        gives(7, "7*2/2");
        gives(1, "1|0|0");
        gives(0, "1&1&0");
    }

    private static void wraps() {
        Due.sentence("Ints wrap");
        gives(1, "2048*1024*1024<0");
        gives(1, "2048*1024*1024-1>0");
        gives(0, "4096*1024*1024");
        gives(1, "0-2048*1024*1024<0");
        gives(1, "2048*1024*1024=0-2048*1024*1024");
        gives(-1, "(2048*1024*1024-1)*2+1");
        gives(1, "2048*1024*1024/(0-1)=2048*1024*1024");
        gives(9999 * 9999 * 99 % 97, "9999*9999*99-9999*9999*99/97*97");
    }

    private static void byZero() {
        Due.sentence("/ is 0 by 0");
        gives(0, "7/0");
        gives(0, "0/0");
        gives(0, "(0-7)/0");
        gives(5, "7/0+5");
        gives(0, "7/(c-5)");
        gives(7, "7/(c-4)");
        gives(0, "7/0/0");
        gives(0, "1&1/0");
        Due.sentence("/ cuts towards 0");
        gives(3, "7/2");
        gives(-3, "(0-7)/2");
        gives(-3, "7/(0-2)");
        gives(3, "(0-7)/(0-2)");
        gives(0, "1/2");
        gives(0, "(0-1)/2");
    }

    private static void oneOrZero() {
        Due.sentence("tests, & | ! give 1 or 0 (what is not 0 is true; both sides are worked out)");
        String[] values = {"0", "1", "7", "(0-1)", "(2048*1024*1024)"};
        for (int i = 0; i < values.length; i++) {
            gives(i == 0 ? 1 : 0, "!" + values[i]);
            gives(i == 0 ? 0 : 1, "!!" + values[i]);
            for (int j = 0; j < values.length; j++) {
                gives(i != 0 && j != 0 ? 1 : 0, values[i] + "&" + values[j]);
                gives(i != 0 || j != 0 ? 1 : 0, values[i] + "|" + values[j]);
                gives(i == j ? 1 : 0, values[i] + "=" + values[j]);
            }
        }
        gives(1, "1<2");
        gives(0, "2<2");
        gives(0, "3<2");
        gives(0, "1>2");
        gives(0, "2>2");
        gives(1, "3>2");
        gives(1, "(0-5)<3");
        gives(0, "(0-5)>3");
        gives(1, "1|1/0");
        gives(0, "0&1/0");
    }

    private static void namesOfLift() {
        Due.sentence("of lift h SAND, s by how much that is more than the next one's in the WAY, p PACE");
        SandRipples x = new SandRipples();
        x.floor(0);
        x.heap(0, 0, 9);
        x.heap(0, 1, 5);
        x.heap(0, 23, 2);
        Due.text(x, "lift h-1");
        Due.is("h", 8, x.lift(0, 0, 0));
        for (int pace = 0; pace < 10; pace++) {
            x.sea(1, pace);
            Due.text(x, "lift p");
            Due.is("p", pace, x.lift(0, 4, 0));
            x.sea(1, 9 - pace);
            Due.is("p as it is now", 9 - pace, x.lift(0, 4, 0));
        }
        x.sea(1, 0);
        x.sea(3, 20);
        Due.text(x, "lift s");
        Due.is("s of 0, up", 4, x.lift(0, 0, 0));
        Due.is("s of 23, up, is below 0", 0, x.lift(0, 23, 0));
        Due.text(x, "lift 0-s");
        Due.is("s of 23, up, round the ring", 2, x.lift(0, 23, 0));
        liftDownwards();
    }

    private static void liftDownwards() {
        SandRipples x = new SandRipples();
        x.floor(0);
        x.sea(1, 0);
        x.sea(3, 20);
        x.run(0, 1);
        x.heap(0, 0, 9);
        x.heap(0, 1, 5);
        x.heap(0, 23, 2);
        Due.text(x, "lift s");
        Due.is("s of 0, down, round the ring", 7, x.lift(0, 0, 0));
        Due.is("s of 1, down, is below 0", 0, x.lift(0, 1, 0));
        for (int kind : new int[] {2, 4}) {
            x.turns(0, kind);
            Due.is("s of 0, up for kind " + kind, kind == 2 ? 4 : 3, x.lift(0, 0, 0));
        }
    }

    private static void namesOfSlide() {
        Due.sentence("of slide d, g STEEP");
        for (int steep : new int[] {1, 4, 20}) {
            SandRipples x = new SandRipples();
            x.floor(0);
            x.sea(1, 0);
            x.sea(3, steep);
            x.heap(0, 5, 70);
            Due.text(x, "slide (d=50)*g");
            Due.is("g grains slide", steep, x.run(0, 1));
            Due.is("where they come", 20 + steep, x.sand(0, 6));
        }
    }

    private static void namesOfMark() {
        Due.sentence("of mark c the CELL, h SAND");
        for (int c = 0; c < 24; c++) {
            SandRipples x = new SandRipples();
            x.floor(0);
            x.heap(0, c, 50 + c);
            Due.text(x, "mark c");
            Due.is("c", c, x.told(0, 10));
            Due.text(x, "mark h");
            Due.is("h", 50 + c, x.told(0, 10));
        }
    }

    private static void lastToldCounts() {
        Due.sentence("Of a KEY that TEXT counts that was told last");
        SandRipples x = new SandRipples();
        x.floor(0);
        for (int key = 0; key < 3; key++) {
            Due.is("why(" + key + ")", Due.NONE, x.why(key));
        }
        for (int i = 0; i < 12; i++) {
            Due.text(x, KEYS[i % 3] + " " + i);
            Due.is("why of it", i, x.why(i % 3));
            Due.is("why of the one ahead", i < 1 ? Due.NONE : i - 1, x.why((i + 2) % 3));
            Due.is("why of the one ahead of that", i < 2 ? Due.NONE : i - 2, x.why((i + 1) % 3));
        }
        Due.is("lift 9 counts", 9, x.lift(0, 0, 0));
        Due.text(x, "lift 5+");
        Due.is("a fault does not count", 9, x.lift(0, 0, 0));
        Due.text(x, "lift 4");
        Due.text(x, "lift 3");
        Due.is("lift 3 counts", 3, x.lift(0, 0, 0));
        Due.is("one too many", Due.FULL, Due.text(x, "lift 2"));
        Due.is("one too many does not count", 3, x.lift(0, 0, 0));
        Due.is("why(0)", 13, x.why(0));
    }
}
