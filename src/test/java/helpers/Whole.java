import java.util.ArrayList;
import java.util.List;

/**
 * All that can be seen of an object, as a row of numbers. To see the tape, what waits and the image they are used: ask
 * it last. It takes some 300 calls.
 */
final class Whole {
    /** An object is good for 512 calls: with more floors than these their cells are not looked at one by one. */
    private static final int FEW_FLOORS = 3;

    private final SandRipples x;
    private final List<String> names = new ArrayList<>();
    private final List<Integer> numbers = new ArrayList<>();

    private Whole(SandRipples x) {
        this.x = x;
    }

    static Whole of(SandRipples x) {
        Whole w = new Whole(x);
        w.seeNow("now");
        w.seeSlots();
        w.seeSheets();
        w.see("check(0, 2)", x.check(0, 2));
        w.see("text()", x.text());
        w.see("the text that counts for mark", x.why(2));
        w.see("marks by it", x.told(0, 10));
        w.see("back()", x.back());
        w.seeNow("the image");
        return w;
    }

    /** What an image keeps of an object; nothing is used up. */
    static Whole ofNow(SandRipples x) {
        Whole w = new Whole(x);
        w.seeNow("now");
        return w;
    }

    static void same(String what, Whole due, Whole got) {
        Due.is(what + ": how much can be seen", due.numbers.size(), got.numbers.size());
        for (int i = 0; i < Math.min(due.numbers.size(), got.numbers.size()); i++) {
            Due.is(what + ": " + due.names.get(i), due.numbers.get(i), got.numbers.get(i));
        }
    }

    private void see(String name, int number) {
        names.add(name);
        numbers.add(number);
    }

    private void seeNow(String when) {
        for (int what = 0; what < 9; what++) {
            if (what != 6 && what != 7) {
                see(when + ", count " + what, x.count(what));
            }
        }
        int floors = x.count(0);
        int texts = x.count(5);
        for (int f = 0; f < floors; f++) {
            for (int what = 0; what <= 10; what++) {
                see(when + ", told " + what + " of floor " + f, x.told(f, what));
            }
            for (int c = 0; floors <= FEW_FLOORS && c < 24; c++) {
                see(when + ", sand " + c + " of floor " + f, x.sand(f, c));
            }
        }
        for (int key = 0; key < 3; key++) {
            see(when + ", why " + key, x.why(key));
        }
        for (int text = 0; text < texts; text++) {
            see(when + ", key of text " + text, x.textTold(text, 0));
            see(when + ", leaves of text " + text, x.textTold(text, 1));
        }
    }

    private void seeSlots() {
        see("numbers that wait", x.count(6));
        see("bytes of the tape", x.count(7));
        for (int slot = 0; slot < 5; slot++) {
            see("floor in slot " + slot, x.ask(slot, 0));
            see("number in slot " + slot, x.rest(slot, 1000003));
            for (int place = 0; place < 5; place++) {
                see("place " + place + " in slot " + slot, x.item(slot, place));
            }
        }
    }

    private void seeSheets() {
        for (int sheet = 0; sheet < 4; sheet++) {
            see("sheet " + sheet, x.lay(4, 2, sheet));
            for (int place = 0; place < 5; place++) {
                see("place " + place + " of sheet " + sheet, x.item(4, place));
            }
            see("sort of sheet " + sheet, x.copy(sheet, 0, 1, 0, 0));
        }
    }
}
