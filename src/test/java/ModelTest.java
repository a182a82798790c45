import java.lang.reflect.Method;
import java.util.ArrayList;
import java.util.HashMap;
import java.util.List;
import java.util.Map;
import java.util.Random;

/** All promises: runs of calls by lot (the same ones each time), the class against the model. */
public final class ModelTest {
    private static final int RUNS = 600;
    /** An object is good for 512 calls: the last ones look at the sand of all floors. */
    private static final int CALLS = 512 - 6 * 24;
    private static final String[] NAMES = {
        "floor 1", "told 2", "as 2", "turns 2", "sea 2", "sand 2", "heap 3", "deal 1", "seed 1", "lift 3", "run 2",
        "crest 2", "apart 1", "flat 2", "soon 2", "period 1", "foot 3", "worm 2", "press 2", "unlike 2", "turned 3",
        "seen 3", "best 3", "feed 3", "trim 1", "text 0", "textTold 2", "why 1", "sheet 3", "mark 3", "pour 2",
        "reads 2", "copy 5", "lay 3", "ask 2", "item 2", "rest 2", "tell 1", "check 2", "keep 0", "back 0", "count 1"};
    private static final String[] BITS = {
        "lift", "slide", "mark", "lift ", "mark ", "slide ", " ", "  ", "h", "s", "p", "d", "g", "c", "(", ")", "!", "+",
        "-", "*", "/", "<", "=", ">", "&", "|", "1", "23", "9999", "00000", "((((", "!!!!", ";", "L", "\u00e9", "lif"};

    private final Random lot;
    private final SandRipples x = new SandRipples();
    private final Model model = new Model();
    private final Map<String, Method> methods = new HashMap<>();
    private final StringBuilder calls = new StringBuilder();
    private int made = 0;

    private ModelTest(long seed) {
        lot = new Random(seed);
        for (Method m : SandRipples.class.getMethods()) {
            methods.put(m.getName(), m);
        }
    }

    public static void main(String[] args) throws Exception {
        int runs = args.length > 0 ? Integer.parseInt(args[0]) : RUNS;
        int from = args.length > 1 ? Integer.parseInt(args[1]) : 0;
        for (int i = from; i < from + runs && !Due.failed(); i++) {
            new ModelTest(i).run(i);
        }
        Due.end();
    }

    private void run(int seed) throws Exception {
        boolean wild = seed % 8 == 0;
        for (int f = 0; f < 1 + seed % 3; f++) {
            call("floor", lot.nextInt(6));
            call("deal", f);
        }
        while (made < CALLS && !Due.failed()) {
            int what = lot.nextInt(100);
            if (what < 6) {
                textByLot();
            } else if (what < 8) {
                tellByLot();
            } else {
                String[] name = NAMES[lot.nextInt(NAMES.length)].split(" ");
                if (!isDear(name[0]) || lot.nextInt(6) == 0) {
                    int[] a = new int[Integer.parseInt(name[1])];
                    for (int i = 0; i < a.length; i++) {
                        a[i] = wild || lot.nextInt(12) == 0 ? wildNumber() : lot.nextInt(bound(name[0], i));
                    }
                    call(name[0], a);
                }
            }
        }
        for (int f = 0; f < model.floors.size(); f++) {
            for (int c = 0; c < 24; c++) {
                Due.is("run " + seed + ", sand(" + f + ", " + c + ")", model.call("sand", new int[] {f, c}), x.sand(f, c));
            }
        }
    }

    /** Calls that think over hundreds of ticks, or that undo much, come less often. */
    private static boolean isDear(String name) {
        return List.of("seen", "best", "soon", "period", "keep", "back", "sheet", "press").contains(name);
    }

    private int bound(String name, int i) {
        switch (name + " " + i) {
            case "floor 0": case "as 1": case "turns 1": case "ask 1": return 6;
            case "told 1": return 11;
            case "sea 0": case "sheet 0": case "mark 0": case "pour 0": case "reads 0": case "seen 0": case "copy 0":
            case "copy 2": case "lay 1": return 4;
            case "sea 1": return 10;
            case "sand 1": case "heap 1": case "lift 1": case "foot 1": case "worm 1": case "mark 1": case "item 1":
            case "sheet 2": case "soon 1": return 25;
            case "heap 2": case "foot 2": case "flat 1": case "press 1": case "mark 2": return 101;
            case "lift 2": case "turned 2": case "best 2": case "textTold 1": case "sheet 1": return 2;
            case "run 1": case "seen 2": case "best 1": case "check 1": return 32;
            case "crest 1": case "copy 1": case "copy 3": case "copy 4": return 9;
            case "trim 0": return Math.max(1, model.tape.length() + 1);
            case "lay 0": case "ask 0": case "item 0": case "rest 0": return 5;
            case "why 0": return 3;
            case "textTold 0": return 14;
            case "count 0": return 9;
            case "seed 0": case "rest 1": case "tell 0": return 1000;
            case "lay 2": return 4;
            default: return Math.max(1, model.floors.size());
        }
    }

    private int wildNumber() {
        int[] some = {
            Integer.MIN_VALUE, Integer.MAX_VALUE, -1, 0, 1, 24, 25, 100, 99999, -99999, 100000, 32768, -32769, Due.NONE,
            Due.BAD, 6, 31, 61};
        return lot.nextInt(4) == 0 ? lot.nextInt() : some[lot.nextInt(some.length)];
    }

    private void textByLot() throws Exception {
        StringBuilder b = new StringBuilder();
        int form = lot.nextInt(4);
        if (form == 0) {
            for (int i = lot.nextInt(14); i >= 0; i--) {
                b.append(BITS[lot.nextInt(BITS.length)]);
            }
        } else {
            int key = lot.nextInt(3);
            b.append(new String[] {"lift", "slide", "mark"}[key]).append(' ');
            expression(b, new String[] {"hsp", "dg", "ch"}[key], 3 + lot.nextInt(2));
            if (form == 1) {
                int at = lot.nextInt(b.length());
                b.replace(at, Math.min(b.length(), at + lot.nextInt(3)), BITS[lot.nextInt(BITS.length)]);
            }
        }
        String s = b.length() > 96 ? b.substring(0, 96) : b.toString();
        call("trim", 0);
        for (int i = 0; i < s.length(); i += 12) {
            call("feed", four(s, i), four(s, i + 4), four(s, i + 8));
        }
        call("trim", s.length());
        call("text");
    }

    private static int four(String s, int from) {
        int v = 0;
        for (int i = from; i < from + 4; i++) {
            v = v << 8 | (i < s.length() ? s.charAt(i) & 255 : 0);
        }
        return v;
    }

    private void expression(StringBuilder b, String names, int depth) {
        int form = depth <= 0 ? lot.nextInt(2) : lot.nextInt(9);
        if (form < 2) {
            b.append(form == 0 ? "" + names.charAt(lot.nextInt(names.length())) : "" + lot.nextInt(lot.nextBoolean() ? 10 : 10000));
        } else if (form == 2) {
            b.append('!');
            expression(b, names, 0);
        } else if (form == 3) {
            b.append('(');
            expression(b, names, depth - 1);
            b.append(')');
        } else {
            expression(b, names, depth - 1);
            String blank = lot.nextInt(8) == 0 ? " " : "";
            b.append(blank).append("|&<=>+-*/+-*/".charAt(lot.nextInt(13))).append(blank);
            expression(b, names, depth - 2);
        }
    }

    /** What ticks tell, from the model, at times with one number that is wrong or too many. */
    private void tellByLot() throws Exception {
        if (model.keptFloors == null || model.keptFloors.isEmpty()) {
            return;
        }
        int floor = lot.nextInt(model.keptFloors.size());
        int n = 1 + lot.nextInt(5);
        List<Integer> due = new ArrayList<>();
        Model.Ground t = model.keptFloors.get(floor).twin();
        for (int i = 0; i < n; i++) {
            due.add(t.run(model.keptSea));
            due.add(t.crests().size());
        }
        int at = lot.nextInt(due.size());
        switch (lot.nextInt(4)) {
            case 0: due.set(at, due.get(at) + 1); break;
            case 1: due.add(0); break;
            case 2: due.remove(due.size() - 1); break;
            default: break;
        }
        if (lot.nextInt(4) != 0) {
            call("check", floor, n);
        }
        for (int v : due) {
            call("tell", v);
        }
        call("check", floor, n);
    }

    private void call(String name, int... a) throws Exception {
        if (made >= CALLS) {
            return;
        }
        made++;
        Object[] given = new Object[a.length];
        for (int i = 0; i < a.length; i++) {
            given[i] = a[i];
        }
        calls.append(name).append(java.util.Arrays.toString(a)).append('\n');
        int want = model.call(name, a);
        int got = (Integer) methods.get(name).invoke(x, given);
        if (want != got) {
            System.out.print(calls);
        }
        Due.is(name + java.util.Arrays.toString(a), want, got);
    }
}
