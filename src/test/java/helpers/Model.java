import java.util.ArrayList;
import java.util.HashMap;
import java.util.List;
import java.util.Map;

/**
 * The document once more, told in another way and without a thought for room or speed: kinds are classes under one
 * another, laws are trees, faults are looked for by trying how a text could go on, sheets are true rows of shorts and
 * floats. ModelTest asks it and the class the same.
 */
final class Model {
    private static final int BAD = Due.BAD, NO = Due.NO, FULL = Due.FULL, NONE = Due.NONE;
    private static final int NOTHING = Due.NOTHING, KIND = Due.KIND, INDEX = Due.INDEX, SIZE = Due.SIZE;

    static class Refused extends RuntimeException {
        private static final long serialVersionUID = 1;
        final int answer;

        Refused(int answer) {
            super(null, null, false, false);
            this.answer = answer;
        }
    }

    private static void need(boolean it, int answer) {
        if (!it) {
            throw new Refused(answer);
        }
    }

    private static int held(int v, int least, int most) {
        return v < least ? least : v > most ? most : v;
    }

    // ---- kinds under one another

    static class FloorKind {
        int number() {
            return 0;
        }

        int reach(Ground g, Sea s) {
            return s.far;
        }

        int way(Ground g) {
            return g.tick % 2 == 0 ? 1 : -1;
        }

        int lift(Ground g, Sea s, int c) {
            Law law = s.law("lift");
            int h = g.sand[c];
            if (law == null) {
                return Math.min(s.pace, h);
            }
            Map<String, Integer> names = new HashMap<>();
            names.put("h", h);
            names.put("s", h - g.at(c + way(g)));
            names.put("p", s.pace);
            return held(law.tree.value(names), 0, h);
        }

        int worth(Ground g) {
            int most = 0;
            int least = Integer.MAX_VALUE;
            for (int v : g.sand) {
                most = Math.max(most, v);
                least = Math.min(least, v);
            }
            return most - least;
        }
    }

    static class Fitted extends FloorKind {
        int number() {
            return 1;
        }

        int reach(Ground g, Sea s) {
            return 2 * super.reach(g, s) / 3;
        }

        int worth(Ground g) {
            return super.worth(g) + g.crests().size();
        }
    }

    static class Crowded extends Fitted {
        int number() {
            return 3;
        }

        int reach(Ground g, Sea s) {
            return Math.max(0, super.reach(g, s) - 1);
        }

        int lift(Ground g, Sea s, int c) {
            return super.lift(g, s, c) / 2;
        }

        int worth(Ground g) {
            return 2 * super.worth(g);
        }
    }

    static class Blown extends FloorKind {
        int number() {
            return 2;
        }

        int reach(Ground g, Sea s) {
            return super.reach(g, s) + 1;
        }

        int way(Ground g) {
            return 1;
        }

        int worth(Ground g) {
            return g.lean();
        }
    }

    static class Old extends Blown {
        int number() {
            return 4;
        }

        int reach(Ground g, Sea s) {
            return super.reach(g, s) / 2;
        }

        int lift(Ground g, Sea s, int c) {
            return Math.max(0, super.lift(g, s, c) - 1);
        }

        int worth(Ground g) {
            return super.worth(g) + 10;
        }
    }

    static class Crossed extends FloorKind {
        int number() {
            return 5;
        }

        int reach(Ground g, Sea s) {
            return g.tick % 2 == 0 ? s.far : s.second;
        }

        int worth(Ground g) {
            return g.all() / 24;
        }
    }

    private static final FloorKind[] KINDS = {
        new FloorKind(), new Fitted(), new Blown(), new Crowded(), new Old(), new Crossed()};

    private static FloorKind kind(int k) {
        need(k >= 0 && k < 6, BAD);
        return KINDS[k];
    }

    // ---- floors, the sea

    static class Sea {
        int far = 3;
        int pace = 2;
        int second = 5;
        int steep = 4;
        int z = 1;
        List<Law> laws = new ArrayList<>();

        Sea twin() {
            Sea t = new Sea();
            t.far = far;
            t.pace = pace;
            t.second = second;
            t.steep = steep;
            t.z = z;
            t.laws = new ArrayList<>(laws);
            return t;
        }

        Law law(String key) {
            Law found = null;
            for (Law l : laws) {
                found = l.key.equals(key) ? l : found;
            }
            return found;
        }
    }

    static class Ground {
        int[] sand = new int[24];
        int tick = 0;
        FloorKind kind;

        Ground(FloorKind kind) {
            this.kind = kind;
            java.util.Arrays.fill(sand, 20);
        }

        Ground twin() {
            Ground t = new Ground(kind);
            t.sand = sand.clone();
            t.tick = tick;
            return t;
        }

        int at(int c) {
            return sand[(c + 240) % 24];
        }

        void add(int c, int grains) {
            sand[(c + 240) % 24] += grains;
        }

        int all() {
            int sum = 0;
            for (int v : sand) {
                sum += v;
            }
            return sum;
        }

        List<Integer> crests() {
            List<Integer> found = new ArrayList<>();
            for (int c = 0; c < 24; c++) {
                if (at(c) > at(c - 1) && !(at(c) < at(c + 1))) {
                    found.add(c);
                }
            }
            return found;
        }

        int lean() {
            int less = 0;
            int more = 0;
            for (int c = 0; c < 24; c++) {
                less += at(c) < at(c + 1) ? 1 : 0;
                more += at(c) > at(c + 1) ? 1 : 0;
            }
            return less - more;
        }

        int run(Sea s) {
            int moved = 0;
            Ground was = twin();
            int on = kind.reach(was, s);
            int way = kind.way(was);
            for (int c = 0; c < 24; c++) {
                int up = kind.lift(was, s, c);
                add(c, -up);
                add(c + way * on, up);
                moved += on > 0 ? up : 0;
            }
            for (int c = 0; c < 24; c++) {
                int to = at(c) - at(c + 1) > 0 ? c + 1 : c - 1;
                int d = at(c) - at(to);
                if (d > 0) {
                    int down = slide(s, d);
                    add(c, -down);
                    add(to, down);
                    moved += down;
                }
            }
            tick++;
            return moved;
        }

        private static int slide(Sea s, int d) {
            Law law = s.law("slide");
            if (law == null) {
                return d > s.steep ? 1 : 0;
            }
            Map<String, Integer> names = new HashMap<>();
            names.put("d", d);
            names.put("g", s.steep);
            return held(law.tree.value(names), 0, d / 2);
        }

        int marks(Sea s) {
            Law law = s.law("mark");
            int sum = 0;
            for (int c : crests()) {
                Map<String, Integer> names = new HashMap<>();
                names.put("c", c);
                names.put("h", sand[c]);
                sum += law == null ? Math.min(99, sand[c]) : held(law.tree.value(names), -99, 99);
            }
            return sum;
        }

        int unlike(Ground other, int t) {
            int many = 0;
            for (int c = 0; c < 24; c++) {
                many += at(c) == other.at(c + t) ? 0 : 1;
            }
            return many;
        }
    }

    // ---- laws

    static class Law {
        String key;
        Tree tree;
        int leaves = 0;
    }

    static class Tree {
        String sign;
        Tree left;
        Tree right;

        Tree(String sign, Tree left, Tree right) {
            this.sign = sign;
            this.left = left;
            this.right = right;
        }

        int value(Map<String, Integer> names) {
            if (left == null) {
                return names.containsKey(sign) ? names.get(sign) : Integer.parseInt(sign);
            }
            int a = left.value(names);
            if (right == null) {
                return a == 0 ? 1 : 0;
            }
            int b = right.value(names);
            switch (sign) {
                case "|": return a != 0 | b != 0 ? 1 : 0;
                case "&": return a != 0 & b != 0 ? 1 : 0;
                case "<": return a < b ? 1 : 0;
                case "=": return a == b ? 1 : 0;
                case ">": return a > b ? 1 : 0;
                case "+": return a + b;
                case "-": return a - b;
                case "*": return a * b;
                default: return b == 0 ? 0 : a / b;
            }
        }
    }

    /** A parser that goes down the grammar by name; it throws Refused where a text is none. */
    static class Grammar {
        private static final String[] LEVELS = {"|", "&", "<=>", "+-", "*/"};
        private final List<String> words;
        private int next = 0;
        private String names;
        private final Law law = new Law();

        Grammar(List<String> words) {
            this.words = words;
        }

        Law read() {
            law.key = take();
            switch (law.key) {
                case "lift": names = "hsp"; break;
                case "slide": names = "dg"; break;
                case "mark": names = "ch"; break;
                default: throw new Refused(BAD);
            }
            law.tree = level(0, 0, 0);
            need(next == words.size(), BAD);
            return law;
        }

        private String take() {
            need(next < words.size(), BAD);
            return words.get(next++);
        }

        private Tree level(int level, int brackets, int nots) {
            if (level == LEVELS.length) {
                return piece(brackets, nots);
            }
            Tree tree = level(level + 1, brackets, nots);
            int joined = 0;
            while (next < words.size() && words.get(next).length() == 1 && LEVELS[level].contains(words.get(next))
                && !(level == 2 && joined == 1)) {
                String sign = take();
                tree = new Tree(sign, tree, level(level + 1, brackets, nots));
                joined++;
            }
            return tree;
        }

        private Tree piece(int brackets, int nots) {
            String word = take();
            if (word.equals("!")) {
                need(nots < 8, BAD);
                return new Tree("!", piece(brackets, nots + 1), null);
            }
            if (word.equals("(")) {
                need(brackets < 8, BAD);
                Tree tree = level(0, brackets + 1, nots);
                need(take().equals(")"), BAD);
                return tree;
            }
            need(word.matches("[0-9]{1,4}") || word.matches("[a-z]") && names.contains(word), BAD);
            law.leaves++;
            return new Tree(word, null, null);
        }
    }

    private static Law lawOf(List<String> words) {
        try {
            return new Grammar(words).read();
        } catch (Refused r) {
            return null;
        }
    }

    /** Whether some text begins with these words: if one does, then one that ends with a 1 and brackets does too. */
    private static boolean goesOn(List<String> words) {
        for (int form = 0; form < 4; form++) {
            List<String> more = new ArrayList<>(words);
            if (form == 3) {
                more.add("lift");
            }
            if (form % 2 == 1) {
                more.add("1");
            }
            for (int brackets = 0; brackets <= 8; brackets++) {
                if (lawOf(more) != null) {
                    return true;
                }
                more.add(")");
            }
        }
        return false;
    }

    // ---- the object

    Sea sea = new Sea();
    List<Ground> floors = new ArrayList<>();
    Sea keptSea;
    List<Ground> keptFloors;
    String tape = "";
    final Object[] sheets = new Object[4];
    final Object[] slots = new Object[5];
    final List<Integer> waiting = new ArrayList<>();

    private Ground on(int f) {
        need(f >= 0 && f < floors.size(), BAD);
        return floors.get(f);
    }

    private static void range(int v, int least, int most) {
        need(v >= least && v <= most, BAD);
    }

    private static List<Ground> twins(List<Ground> of) {
        List<Ground> all = new ArrayList<>();
        for (Ground g : of) {
            all.add(g.twin());
        }
        return all;
    }

    /** Any call by its name; a refusal is its answer. */
    int call(String name, int[] a) {
        try {
            switch (name) {
                case "floor": case "told": case "as": case "turns": case "sea": case "sand": case "heap": case "deal":
                case "seed": return floorCall(name, a);
                case "lift": case "run": case "crest": case "apart": case "flat": case "soon": case "period":
                    return tickCall(name, a);
                case "foot": case "worm": case "press": case "unlike": case "turned": case "seen": case "best":
                    return doneCall(name, a);
                case "feed": case "trim": case "text": case "textTold": case "why": return textCall(name, a);
                case "tell": case "check": case "keep": case "back": case "count": return rowCall(name, a);
                default: return sheetCall(name, a);
            }
        } catch (Refused r) {
            return r.answer;
        }
    }

    private int floorCall(String name, int[] a) {
        switch (name) {
            case "floor": {
                Ground g = new Ground(kind(a[0]));
                need(floors.size() < 6, FULL);
                floors.add(g);
                return floors.size() - 1;
            }
            case "told": return told(on(a[0]), a[1]);
            case "as": {
                Ground g = on(a[0]);
                need(kind(a[1]).getClass().isInstance(g.kind), KIND);
                return g.tick;
            }
            case "turns": {
                Ground g = on(a[0]);
                int was = g.kind.number();
                g.kind = kind(a[1]);
                return was;
            }
            case "sea": {
                int[] most = {11, 9, 11, 20};
                int[] was = {sea.far, sea.pace, sea.second, sea.steep};
                range(a[0], 0, 3);
                range(a[1], a[0] == 3 ? 1 : 0, most[a[0]]);
                sea.far = a[0] == 0 ? a[1] : sea.far;
                sea.pace = a[0] == 1 ? a[1] : sea.pace;
                sea.second = a[0] == 2 ? a[1] : sea.second;
                sea.steep = a[0] == 3 ? a[1] : sea.steep;
                return was[a[0]];
            }
            case "sand": range(a[1], 0, 23); return on(a[0]).sand[a[1]];
            case "heap": {
                range(a[1], 0, 23);
                range(a[2], 0, 99);
                int was = on(a[0]).sand[a[1]];
                on(a[0]).sand[a[1]] = a[2];
                return was;
            }
            case "deal": {
                Ground g = on(a[0]);
                for (int c = 0; c < 24; c++) {
                    sea.z = sea.z * 1103515245 + 12345;
                    g.sand[c] = (sea.z >>> 8) % 40;
                }
                return g.all();
            }
            default: {
                int was = sea.z;
                sea.z = a[0];
                return was;
            }
        }
    }

    private int told(Ground g, int what) {
        switch (what) {
            case 0: return g.kind.number();
            case 1: return g.tick;
            case 2: return g.all();
            case 3: return java.util.Arrays.stream(g.sand).max().getAsInt();
            case 4: return java.util.Arrays.stream(g.sand).min().getAsInt();
            case 5: return g.crests().size();
            case 6: return g.lean();
            case 7: return g.kind.worth(g);
            case 8: return g.kind.reach(g, sea);
            case 9: return g.kind.way(g);
            case 10: return g.marks(sea);
            default: return BAD;
        }
    }

    private int tickCall(String name, int[] a) {
        Ground g = on(a[0]);
        switch (name) {
            case "lift": {
                range(a[1], 0, 23);
                range(a[2], 0, 1);
                int to = a[1] + g.kind.way(g) * g.kind.reach(g, sea);
                return a[2] == 0 ? g.kind.lift(g, sea, a[1]) : to < 0 ? to + 24 : to > 23 ? to - 24 : to;
            }
            case "run": {
                range(a[1], 1, 60);
                int moved = 0;
                for (int i = 0; i < a[1]; i++) {
                    moved += g.run(sea);
                }
                return moved;
            }
            case "crest": {
                need(a[1] >= 0, BAD);
                need(a[1] < g.crests().size(), NONE);
                return g.crests().get(a[1]);
            }
            case "apart": need(!g.crests().isEmpty(), NONE); return 2400 / g.crests().size();
            case "flat": {
                range(a[1], 0, 99);
                for (int c = 0; c < 24; c++) {
                    int d = g.at(c) - g.at(c + 1);
                    if (d > a[1] || -d > a[1]) {
                        return 0;
                    }
                }
                return 1;
            }
            case "soon": {
                range(a[1], 0, 24);
                Ground t = g.twin();
                int ticks = 0;
                while (t.crests().size() < a[1] && ticks < 101) {
                    t.run(sea);
                    ticks++;
                }
                return ticks > 100 ? NONE : ticks;
            }
            default: {
                Ground t = g.twin();
                for (int ticks = 1; ticks < 101; ticks++) {
                    t.run(sea);
                    if (java.util.Arrays.equals(t.sand, g.sand)) {
                        return ticks;
                    }
                }
                return NONE;
            }
        }
    }

    private int doneCall(String name, int[] a) {
        switch (name) {
            case "foot": return foot(on(a[0]), a[1], a[2]);
            case "worm": {
                Ground g = on(a[0]);
                range(a[1], 0, 23);
                int sum = g.at(a[1] - 1) + g.at(a[1]) + g.at(a[1] + 1);
                for (int i = -1; i <= 1; i++) {
                    g.add(a[1] + i, sum / 3 - g.at(a[1] + i));
                }
                g.add(a[1], sum % 3);
                return g.at(a[1]);
            }
            case "press": {
                Ground g = on(a[0]);
                range(a[1], 0, 100);
                int less = g.all();
                for (int c = 0; c < 24; c++) {
                    g.sand[c] = g.sand[c] * a[1] / 100;
                }
                return less - g.all();
            }
            case "unlike": return on(a[0]).unlike(on(a[1]), 0);
            case "turned": {
                Ground g = on(a[0]);
                Ground h = on(a[1]);
                range(a[2], 0, 1);
                int t = 0;
                for (int i = 23; i >= 0; i--) {
                    t = g.unlike(h, i) <= g.unlike(h, t) ? i : t;
                }
                return a[2] == 0 ? t : g.unlike(h, t);
            }
            case "seen": return seen(a[0], a[1], a[2]);
            default: {
                Ground g = on(a[0]);
                range(a[1], 0, 30);
                range(a[2], 0, 1);
                int[] crests = new int[10];
                int pace = 9;
                for (int p = 9; p >= 0; p--) {
                    Sea s = sea.twin();
                    s.pace = p;
                    crests[p] = behind(g, s, a[1]).crests().size();
                    pace = crests[p] >= crests[pace] ? p : pace;
                }
                return a[2] == 0 ? pace : crests[pace];
            }
        }
    }

    private static int foot(Ground g, int cell, int n) {
        range(cell, 0, 23);
        range(n, 0, 99);
        int went = 0;
        while (went < n && g.sand[cell] > 0) {
            g.add(cell, -1);
            g.add(went % 2 == 0 ? cell + 1 : cell - 1, 1);
            went++;
        }
        return went;
    }

    private static Ground behind(Ground g, Sea s, int ticks) {
        Ground t = g.twin();
        for (int i = 0; i < ticks; i++) {
            t.run(s);
        }
        return t;
    }

    private int seen(int sheet, int floor, int k) {
        range(sheet, 0, 3);
        Ground g = on(floor);
        range(k, 0, 30);
        need(sheets[sheet] != null, NOTHING);
        long[] off = new long[12];
        int far = 11;
        for (int f = 11; f >= 0; f--) {
            Sea s = sea.twin();
            s.far = f;
            Ground t = behind(g, s, k);
            for (int c = 0; c < length(sheets[sheet]); c++) {
                if (isNumber(sheets[sheet], c)) {
                    off[f] += Math.abs((long) number(sheets[sheet], c) - t.sand[c]);
                }
            }
            far = off[f] <= off[far] ? f : far;
        }
        return far;
    }

    private int textCall(String name, int[] a) {
        switch (name) {
            case "feed": {
                need(tape.length() <= 84, FULL);
                StringBuilder b = new StringBuilder(tape);
                for (int v : a) {
                    b.append((char) (v >> 24 & 255)).append((char) (v >> 16 & 255));
                    b.append((char) (v >> 8 & 255)).append((char) (v & 255));
                }
                tape = b.toString();
                return tape.length();
            }
            case "trim": range(a[0], 0, tape.length()); tape = tape.substring(0, a[0]); return a[0];
            case "text": {
                String given = tape;
                tape = "";
                return text(given);
            }
            case "textTold": {
                range(a[0], 0, sea.laws.size() - 1);
                range(a[1], 0, 1);
                Law law = sea.laws.get(a[0]);
                return a[1] == 1 ? law.leaves : List.of("lift", "slide", "mark").indexOf(law.key);
            }
            default: {
                range(a[0], 0, 2);
                Law law = sea.law(List.of("lift", "slide", "mark").get(a[0]));
                need(law != null, NONE);
                return sea.laws.indexOf(law);
            }
        }
    }

    private int text(String given) {
        List<String> words = new ArrayList<>();
        String left = given;
        boolean blank = true;
        while (!left.isEmpty()) {
            String word = left.replaceAll("(?s)^([a-z]+|[0-9]+|.).*$", "$1");
            left = left.substring(word.length());
            if (word.equals(" ")) {
                blank = true;
                continue;
            }
            boolean isWord = word.matches("[a-z0-9]+");
            boolean behindWord = !words.isEmpty() && words.get(words.size() - 1).matches("[a-z0-9]+");
            words.add(word);
            if (isWord && behindWord && !blank || !goesOn(words)) {
                return -100 - (given.length() - left.length() - word.length());
            }
            blank = false;
        }
        Law law = lawOf(words);
        need(law != null, -100 - given.length());
        need(sea.laws.size() < 14, FULL);
        sea.laws.add(law);
        return sea.laws.size() - 1;
    }

    // ---- sheets, slots

    private static int length(Object sheet) {
        return java.lang.reflect.Array.getLength(sheet);
    }

    private static boolean isNumber(Object sheet, int place) {
        return !(sheet instanceof float[]) || !Float.isNaN(((float[]) sheet)[place]);
    }

    private static int number(Object sheet, int place) {
        return sheet instanceof float[] ? (int) ((float[]) sheet)[place] : ((short[]) sheet)[place];
    }

    private int sheetCall(String name, int[] a) {
        switch (name) {
            case "sheet": {
                range(a[0], 0, 3);
                range(a[1], -1, 1);
                if (a[1] == -1) {
                    sheets[a[0]] = null;
                    return 0;
                }
                need(a[2] <= 24, BAD);
                need(a[2] >= 0, SIZE);
                sheets[a[0]] = a[1] == 0 ? new short[a[2]] : new float[a[2]];
                return a[2];
            }
            case "mark": return mark(a[0], a[1], a[2]);
            case "pour": case "reads": return pourOrReads(name.equals("pour"), a[0], a[1]);
            case "copy": {
                range(a[0], 0, 3);
                range(a[2], 0, 3);
                try {
                    System.arraycopy(sheets[a[0]], a[1], sheets[a[2]], a[3], a[4]);
                    return a[4];
                } catch (NullPointerException e) {
                    return NOTHING;
                } catch (ArrayStoreException e) {
                    return KIND;
                } catch (IndexOutOfBoundsException e) {
                    return INDEX;
                }
            }
            case "lay": return lay(a[0], a[1], a[2]);
            default: return slotCall(name, a[0], a[1]);
        }
    }

    private int mark(int sheet, int place, int v) {
        range(sheet, 0, 3);
        Object s = sheets[sheet];
        need(s != null, NOTHING);
        need(place >= 0 && place < length(s), INDEX);
        if (s instanceof short[]) {
            need(v != NONE, KIND);
            ((short[]) s)[place] = (short) v;
        } else {
            need(v == NONE || v >= -99999 && v <= 99999, BAD);
            ((float[]) s)[place] = v == NONE ? Float.NaN : v;
        }
        return 1;
    }

    private int pourOrReads(boolean pour, int sheet, int floor) {
        range(sheet, 0, 3);
        Ground g = on(floor);
        Object s = sheets[sheet];
        need(s != null, NOTHING);
        Ground was = g.twin();
        for (int c = 0; c < length(s); c++) {
            if (isNumber(s, c) && !pour && number(s, c) != g.sand[c]) {
                return c;
            }
            if (isNumber(s, c) && pour) {
                g.sand[c] = held(number(s, c), 0, 99);
            }
        }
        return pour ? g.unlike(was, 0) : NONE;
    }

    private int lay(int slot, int thing, int k) {
        range(slot, 0, 4);
        range(thing, 0, 3);
        Object it = thing == 3 ? Integer.valueOf(k) : null;
        if (thing == 1) {
            it = on(k).twin();
        }
        if (thing == 2) {
            range(k, 0, 3);
            need(sheets[k] != null, NOTHING);
            it = sheets[k] instanceof short[] ? ((short[]) sheets[k]).clone() : ((float[]) sheets[k]).clone();
        }
        Object was = slots[slot];
        slots[slot] = it;
        return was == null ? 0 : was instanceof Ground ? 1 : was instanceof Integer ? 3 : 2;
    }

    private int slotCall(String name, int slot, int v) {
        range(slot, 0, 4);
        Object it = slots[slot];
        if (name.equals("ask")) {
            Class<?> kind = kind(v).getClass();
            need(it != null, NOTHING);
            need(it instanceof Ground && kind.isInstance(((Ground) it).kind), KIND);
            return ((Ground) it).kind.worth((Ground) it);
        }
        need(it != null, NOTHING);
        if (name.equals("item")) {
            need(it instanceof short[] || it instanceof float[], KIND);
            need(v >= 0 && v < length(it), INDEX);
            need(isNumber(it, v), KIND);
            return number(it, v);
        }
        need(it instanceof Integer, KIND);
        need(v != 0, NO);
        return (int) ((long) (Integer) it % v);
    }

    // ---- rows, images

    private int rowCall(String name, int[] a) {
        switch (name) {
            case "tell": need(waiting.size() < 60, FULL); waiting.add(a[0]); return waiting.size();
            case "check": {
                List<Integer> given = new ArrayList<>(waiting);
                waiting.clear();
                range(a[1], 1, 30);
                need(keptFloors != null, NO);
                range(a[0], 0, keptFloors.size() - 1);
                Ground t = keptFloors.get(a[0]).twin();
                List<Integer> due = new ArrayList<>();
                for (int i = 0; i < a[1]; i++) {
                    due.add(t.run(keptSea));
                    due.add(t.crests().size());
                }
                int same = 0;
                while (same < due.size() && same < given.size() && due.get(same).equals(given.get(same))) {
                    same++;
                }
                return given.equals(due) ? 0 : 1 + same;
            }
            case "keep": keptSea = sea.twin(); keptFloors = twins(floors); return floors.size();
            case "back": {
                need(keptFloors != null, NO);
                sea = keptSea.twin();
                floors = twins(keptFloors);
                return floors.size();
            }
            default: {
                range(a[0], 0, 8);
                int[] all = {
                    floors.size(), sea.far, sea.pace, sea.second, sea.steep, sea.laws.size(), waiting.size(),
                    tape.length(), sea.z};
                return all[a[0]];
            }
        }
    }
}
