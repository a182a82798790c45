/**
 * Ripples that the sea lays on floors of sand, each floor a ring of cells.
 *
 * All rows are made in the constructor and used again, since every call of a run lives in one room.
 */
public final class SandRipples {
    public static final int BAD = -1000000001, NO = -1000000002, FULL = -1000000003, NONE = -1000000005, NOTHING = -1000000011, KIND = -1000000012, INDEX = -1000000013, SIZE = -1000000014;

    private static final int CELLS = 24;
    private static final int MOST_SAND = 99;
    private static final int MOST_FLOORS = 6;
    private static final int MOST_TEXTS = 14;
    private static final int MOST_BYTES = 96;
    private static final int BYTES_FED = 12;
    private static final int MOST_WAITING = 60;
    private static final int SHEETS = 4;
    private static final int SLOTS = 5;
    private static final int MOST_RUN = 60;
    private static final int MOST_BEHIND = 30;
    private static final int THOUGHT_TICKS = 100;
    private static final int MOST_MARK = 99;
    private static final int MOST_FLOAT = 99999;
    private static final int DRAWN_BELOW = 40;

    private static final int PLAIN = 0, FITTED = 1, BLOWN = 2, CROWDED = 3, OLD = 4, CROSSED = 5;
    private static final int[] KIND_ABOVE = {-1, PLAIN, PLAIN, FITTED, BLOWN, PLAIN};

    private static final int FAR = 0, PACE = 1, SECOND = 2, STEEP = 3;
    private static final int[] SEA_LEAST = {0, 0, 0, 1};
    private static final int[] SEA_MOST = {11, 9, 11, 20};

    private static final int LIFTS = 0, SLIDES = 1, MARKS = 2;
    private static final int MISSING = -1, SHORTS = 0, FLOATS = 1;
    private static final int EMPTY = 0, HOLDS_FLOOR = 1, HOLDS_SHEET = 2, HOLDS_NUMBER = 3;

    private final World now = new World(MOST_FLOORS);
    private final World image = new World(MOST_FLOORS);
    private boolean imageKept = false;
    private final World thought = new World(1);
    private final int[] lifted = new int[CELLS];

    // Both worlds share the texts: no text that the image counts is ever written again while it is kept.
    private final Text[] texts = new Text[MOST_TEXTS];
    private final Reader reader = new Reader();
    private final int[] stack = new int[MOST_BYTES];
    private final int[] tape = new int[MOST_BYTES];
    private int tapeLength = 0;

    private final Sheet[] sheets = new Sheet[SHEETS];
    private final Slot[] slots = new Slot[SLOTS];
    private final int[] waiting = new int[MOST_WAITING];
    private int waitingCount = 0;

    public SandRipples() {
        for (int i = 0; i < MOST_TEXTS; i++) {
            texts[i] = new Text();
        }
        for (int i = 0; i < SHEETS; i++) {
            sheets[i] = new Sheet();
        }
        for (int i = 0; i < SLOTS; i++) {
            slots[i] = new Slot();
        }
    }

    // ---- floors, the sea

    public int floor(int kind) {
        if (!isKind(kind)) {
            return BAD;
        }
        if (now.floorCount >= MOST_FLOORS) {
            return FULL;
        }
        now.floors[now.floorCount].begin(kind);
        now.floorCount++;
        return now.floorCount - 1;
    }

    public int told(int floor, int what) {
        if (!isFloor(floor)) {
            return BAD;
        }
        Floor f = now.floors[floor];
        switch (what) {
            case 0: return f.kind;
            case 1: return f.tick;
            case 2: return f.total();
            case 3: return f.greatest();
            case 4: return f.least();
            case 5: return f.crests();
            case 6: return f.lean();
            case 7: return f.worth();
            case 8: return reachOf(now, f);
            case 9: return f.way();
            case 10: return marksOf(now, f);
            default: return BAD;
        }
    }

    public int as(int floor, int kind) {
        if (!isFloor(floor) || !isKind(kind)) {
            return BAD;
        }
        Floor f = now.floors[floor];
        return isUnder(f.kind, kind) ? f.tick : KIND;
    }

    public int turns(int floor, int kind) {
        if (!isFloor(floor) || !isKind(kind)) {
            return BAD;
        }
        Floor f = now.floors[floor];
        int was = f.kind;
        f.kind = kind;
        return was;
    }

    public int sea(int what, int v) {
        if (what < FAR || what > STEEP || v < SEA_LEAST[what] || v > SEA_MOST[what]) {
            return BAD;
        }
        int was = now.sea[what];
        now.sea[what] = v;
        return was;
    }

    public int sand(int floor, int cell) {
        if (!isFloor(floor) || !isCell(cell)) {
            return BAD;
        }
        return now.floors[floor].sand[cell];
    }

    public int heap(int floor, int cell, int v) {
        if (!isFloor(floor) || !isCell(cell) || v < 0 || v > MOST_SAND) {
            return BAD;
        }
        Floor f = now.floors[floor];
        int was = f.sand[cell];
        f.sand[cell] = v;
        return was;
    }

    public int deal(int floor) {
        if (!isFloor(floor)) {
            return BAD;
        }
        Floor f = now.floors[floor];
        for (int c = 0; c < CELLS; c++) {
            f.sand[c] = now.draw() % DRAWN_BELOW;
        }
        return f.total();
    }

    public int seed(int v) {
        int was = now.z;
        now.z = v;
        return was;
    }

    // ---- ticks

    public int lift(int floor, int cell, int what) {
        if (!isFloor(floor) || !isCell(cell) || what < 0 || what > 1) {
            return BAD;
        }
        Floor f = now.floors[floor];
        return what == 0 ? liftOf(now, f, cell) : inRing(cell + f.way() * reachOf(now, f));
    }

    public int run(int floor, int n) {
        if (!isFloor(floor) || n < 1 || n > MOST_RUN) {
            return BAD;
        }
        int moved = 0;
        for (int i = 0; i < n; i++) {
            moved += oneTick(now, now.floors[floor]);
        }
        return moved;
    }

    public int crest(int floor, int i) {
        if (!isFloor(floor) || i < 0) {
            return BAD;
        }
        Floor f = now.floors[floor];
        int before = 0;
        for (int c = 0; c < CELLS; c++) {
            if (f.isCrest(c)) {
                if (before == i) {
                    return c;
                }
                before++;
            }
        }
        return NONE;
    }

    public int apart(int floor) {
        if (!isFloor(floor)) {
            return BAD;
        }
        int crests = now.floors[floor].crests();
        return crests == 0 ? NONE : 100 * CELLS / crests;
    }

    public int flat(int floor, int d) {
        if (!isFloor(floor) || d < 0 || d > MOST_SAND) {
            return BAD;
        }
        Floor f = now.floors[floor];
        for (int c = 0; c < CELLS; c++) {
            if (Math.abs(f.sand[c] - f.sand[nextOf(c)]) > d) {
                return 0;
            }
        }
        return 1;
    }

    public int soon(int floor, int n) {
        if (!isFloor(floor) || n < 0 || n > CELLS) {
            return BAD;
        }
        Floor f = think(now, floor);
        for (int ticks = 0; ticks <= THOUGHT_TICKS; ticks++) {
            if (f.crests() >= n) {
                return ticks;
            }
            oneTick(thought, f);
        }
        return NONE;
    }

    public int period(int floor) {
        if (!isFloor(floor)) {
            return BAD;
        }
        Floor f = think(now, floor);
        for (int ticks = 1; ticks <= THOUGHT_TICKS; ticks++) {
            oneTick(thought, f);
            if (f.unlikeTurned(now.floors[floor], 0) == 0) {
                return ticks;
            }
        }
        return NONE;
    }

    // ---- what else is done, what it was

    public int foot(int floor, int cell, int n) {
        if (!isFloor(floor) || !isCell(cell) || n < 0 || n > MOST_SAND) {
            return BAD;
        }
        Floor f = now.floors[floor];
        int went = Math.min(n, f.sand[cell]);
        f.sand[cell] -= went;
        f.sand[nextOf(cell)] += went - went / 2;
        f.sand[aheadOf(cell)] += went / 2;
        return went;
    }

    public int worm(int floor, int cell) {
        if (!isFloor(floor) || !isCell(cell)) {
            return BAD;
        }
        Floor f = now.floors[floor];
        int next = nextOf(cell);
        int ahead = aheadOf(cell);
        int together = f.sand[ahead] + f.sand[cell] + f.sand[next];
        f.sand[ahead] = together / 3;
        f.sand[next] = together / 3;
        f.sand[cell] = together - together / 3 * 2;
        return f.sand[cell];
    }

    public int press(int floor, int h) {
        if (!isFloor(floor) || h < 0 || h > 100) {
            return BAD;
        }
        Floor f = now.floors[floor];
        int was = f.total();
        for (int c = 0; c < CELLS; c++) {
            f.sand[c] = f.sand[c] * h / 100;
        }
        return was - f.total();
    }

    public int unlike(int one, int other) {
        if (!isFloor(one) || !isFloor(other)) {
            return BAD;
        }
        return now.floors[one].unlikeTurned(now.floors[other], 0);
    }

    public int turned(int one, int other, int what) {
        if (!isFloor(one) || !isFloor(other) || what < 0 || what > 1) {
            return BAD;
        }
        int bestTurn = 0;
        int least = CELLS + 1;
        for (int t = 0; t < CELLS; t++) {
            int unlike = now.floors[one].unlikeTurned(now.floors[other], t);
            if (unlike < least) {
                least = unlike;
                bestTurn = t;
            }
        }
        return what == 0 ? bestTurn : least;
    }

    public int seen(int sheet, int floor, int k) {
        if (!isSheet(sheet) || !isFloor(floor) || k < 0 || k > MOST_BEHIND) {
            return BAD;
        }
        Sheet s = sheets[sheet];
        if (s.sort == MISSING) {
            return NOTHING;
        }
        int bestFar = 0;
        int least = Integer.MAX_VALUE;
        for (int far = SEA_LEAST[FAR]; far <= SEA_MOST[FAR]; far++) {
            int off = s.differences(thinkBehind(floor, FAR, far, k));
            if (off < least) {
                least = off;
                bestFar = far;
            }
        }
        return bestFar;
    }

    public int best(int floor, int k, int what) {
        if (!isFloor(floor) || k < 0 || k > MOST_BEHIND || what < 0 || what > 1) {
            return BAD;
        }
        int bestPace = 0;
        int most = -1;
        for (int pace = SEA_LEAST[PACE]; pace <= SEA_MOST[PACE]; pace++) {
            int crests = thinkBehind(floor, PACE, pace, k).crests();
            if (crests > most) {
                most = crests;
                bestPace = pace;
            }
        }
        return what == 0 ? bestPace : most;
    }

    // ---- texts

    public int feed(int a, int b, int c) {
        if (tapeLength + BYTES_FED > MOST_BYTES) {
            return FULL;
        }
        feedNumber(a);
        feedNumber(b);
        feedNumber(c);
        return tapeLength;
    }

    public int trim(int n) {
        if (n < 0 || n > tapeLength) {
            return BAD;
        }
        tapeLength = n;
        return n;
    }

    public int text() {
        int length = tapeLength;
        tapeLength = 0;
        int fault = reader.faultOf(tape, length);
        if (fault >= 0) {
            return -100 - fault;
        }
        if (now.textCount >= MOST_TEXTS) {
            return FULL;
        }
        int text = now.textCount;
        texts[text].take(reader);
        now.laws[texts[text].key] = text;
        now.textCount++;
        return text;
    }

    public int textTold(int text, int what) {
        if (text < 0 || text >= now.textCount || what < 0 || what > 1) {
            return BAD;
        }
        return what == 0 ? texts[text].key : texts[text].leaves;
    }

    public int why(int key) {
        if (key < LIFTS || key > MARKS) {
            return BAD;
        }
        return now.laws[key];
    }

    // ---- sheets, slots

    public int sheet(int sheet, int sort, int n) {
        if (!isSheet(sheet) || sort < MISSING || sort > FLOATS) {
            return BAD;
        }
        if (sort == MISSING) {
            sheets[sheet].begin(MISSING, 0);
            return 0;
        }
        if (n > CELLS) {
            return BAD;
        }
        if (n < 0) {
            return SIZE;
        }
        sheets[sheet].begin(sort, n);
        return n;
    }

    public int mark(int sheet, int place, int v) {
        if (!isSheet(sheet)) {
            return BAD;
        }
        Sheet s = sheets[sheet];
        if (s.sort == MISSING) {
            return NOTHING;
        }
        if (!s.hasPlace(place)) {
            return INDEX;
        }
        if (s.sort == SHORTS) {
            if (v == NONE) {
                return KIND;
            }
            s.places[place] = (short) v;
            return 1;
        }
        if (v != NONE && (v < -MOST_FLOAT || v > MOST_FLOAT)) {
            return BAD;
        }
        s.places[place] = v;
        return 1;
    }

    public int pour(int sheet, int floor) {
        if (!isSheet(sheet) || !isFloor(floor)) {
            return BAD;
        }
        Sheet s = sheets[sheet];
        if (s.sort == MISSING) {
            return NOTHING;
        }
        Floor f = now.floors[floor];
        int other = 0;
        for (int c = 0; c < CELLS; c++) {
            if (s.isNumber(c)) {
                int v = within(s.places[c], 0, MOST_SAND);
                if (f.sand[c] != v) {
                    f.sand[c] = v;
                    other++;
                }
            }
        }
        return other;
    }

    public int reads(int sheet, int floor) {
        if (!isSheet(sheet) || !isFloor(floor)) {
            return BAD;
        }
        Sheet s = sheets[sheet];
        if (s.sort == MISSING) {
            return NOTHING;
        }
        Floor f = now.floors[floor];
        for (int c = 0; c < CELLS; c++) {
            if (s.isNumber(c) && s.places[c] != f.sand[c]) {
                return c;
            }
        }
        return NONE;
    }

    public int copy(int from, int place, int to, int at, int many) {
        if (!isSheet(from) || !isSheet(to)) {
            return BAD;
        }
        Sheet source = sheets[from];
        Sheet target = sheets[to];
        if (source.sort == MISSING || target.sort == MISSING) {
            return NOTHING;
        }
        if (source.sort != target.sort) {
            return KIND;
        }
        if (!source.hasStretch(place, many) || !target.hasStretch(at, many)) {
            return INDEX;
        }
        System.arraycopy(source.places, place, target.places, at, many);
        return many;
    }

    public int lay(int slot, int thing, int k) {
        if (!isSlot(slot) || thing < EMPTY || thing > HOLDS_NUMBER) {
            return BAD;
        }
        if (thing == HOLDS_FLOOR && !isFloor(k) || thing == HOLDS_SHEET && !isSheet(k)) {
            return BAD;
        }
        if (thing == HOLDS_SHEET && sheets[k].sort == MISSING) {
            return NOTHING;
        }
        Slot s = slots[slot];
        int held = s.thing;
        s.thing = thing;
        if (thing == HOLDS_FLOOR) {
            s.floor.become(now.floors[k]);
        } else if (thing == HOLDS_SHEET) {
            s.sheet.become(sheets[k]);
        } else if (thing == HOLDS_NUMBER) {
            s.number = k;
        }
        return held;
    }

    public int ask(int slot, int kind) {
        if (!isSlot(slot) || !isKind(kind)) {
            return BAD;
        }
        Slot s = slots[slot];
        if (s.thing == EMPTY) {
            return NOTHING;
        }
        if (s.thing != HOLDS_FLOOR || !isUnder(s.floor.kind, kind)) {
            return KIND;
        }
        return s.floor.worth();
    }

    public int item(int slot, int place) {
        if (!isSlot(slot)) {
            return BAD;
        }
        Slot s = slots[slot];
        if (s.thing == EMPTY) {
            return NOTHING;
        }
        if (s.thing != HOLDS_SHEET) {
            return KIND;
        }
        if (!s.sheet.hasPlace(place)) {
            return INDEX;
        }
        return s.sheet.isNumber(place) ? s.sheet.places[place] : KIND;
    }

    public int rest(int slot, int n) {
        if (!isSlot(slot)) {
            return BAD;
        }
        Slot s = slots[slot];
        if (s.thing == EMPTY) {
            return NOTHING;
        }
        if (s.thing != HOLDS_NUMBER) {
            return KIND;
        }
        return n == 0 ? NO : s.number % n;
    }

    // ---- rows, images

    public int tell(int v) {
        if (waitingCount >= MOST_WAITING) {
            return FULL;
        }
        waiting[waitingCount] = v;
        waitingCount++;
        return waitingCount;
    }

    public int check(int floor, int n) {
        int given = waitingCount;
        waitingCount = 0;
        if (n < 1 || n > MOST_BEHIND) {
            return BAD;
        }
        if (!imageKept) {
            return NO;
        }
        if (floor < 0 || floor >= image.floorCount) {
            return BAD;
        }
        Floor f = think(image, floor);
        for (int i = 0; i < n; i++) {
            int moved = oneTick(thought, f);
            if (!isTold(2 * i, given, moved)) {
                return 1 + 2 * i;
            }
            if (!isTold(2 * i + 1, given, f.crests())) {
                return 2 + 2 * i;
            }
        }
        return given > 2 * n ? 1 + 2 * n : 0;
    }

    public int keep() {
        image.becomeAll(now);
        imageKept = true;
        return now.floorCount;
    }

    public int back() {
        if (!imageKept) {
            return NO;
        }
        now.becomeAll(image);
        return now.floorCount;
    }

    public int count(int what) {
        switch (what) {
            case 0: return now.floorCount;
            case 1: return now.sea[FAR];
            case 2: return now.sea[PACE];
            case 3: return now.sea[SECOND];
            case 4: return now.sea[STEEP];
            case 5: return now.textCount;
            case 6: return waitingCount;
            case 7: return tapeLength;
            case 8: return now.z;
            default: return BAD;
        }
    }

    // ---- what an argument may be

    private static boolean isKind(int kind) {
        return kind >= PLAIN && kind <= CROSSED;
    }

    private static boolean isCell(int cell) {
        return cell >= 0 && cell < CELLS;
    }

    private static boolean isSheet(int sheet) {
        return sheet >= 0 && sheet < SHEETS;
    }

    private static boolean isSlot(int slot) {
        return slot >= 0 && slot < SLOTS;
    }

    private boolean isFloor(int floor) {
        return floor >= 0 && floor < now.floorCount;
    }

    private static boolean isUnder(int kind, int upper) {
        int k = kind;
        for (int step = 0; step < KIND_ABOVE.length && isKind(k); step++) {
            if (k == upper) {
                return true;
            }
            k = KIND_ABOVE[k];
        }
        return false;
    }

    private boolean isTold(int place, int given, int due) {
        return place < given && place < MOST_WAITING && waiting[place] == due;
    }

    // ---- the ring

    private static int nextOf(int cell) {
        return cell >= CELLS - 1 ? 0 : cell + 1;
    }

    private static int aheadOf(int cell) {
        return cell <= 0 ? CELLS - 1 : cell - 1;
    }

    private static int inRing(int cell) {
        return Math.floorMod(cell, CELLS);
    }

    private static int within(int v, int least, int most) {
        return Math.max(least, Math.min(v, most));
    }

    // ---- what the water does

    private static int reachOf(World w, Floor f) {
        int far = w.sea[FAR];
        switch (f.kind) {
            case FITTED: return 2 * far / 3;
            case CROWDED: return Math.max(2 * far / 3 - 1, 0);
            case BLOWN: return far + 1;
            case OLD: return (far + 1) / 2;
            case CROSSED: return f.tick % 2 == 0 ? far : w.sea[SECOND];
            default: return far;
        }
    }

    private int liftOf(World w, Floor f, int cell) {
        int h = f.sand[cell];
        int s = h - f.sand[inRing(cell + f.way())];
        int pace = w.sea[PACE];
        int law = w.laws[LIFTS];
        int given = law == NONE ? pace : texts[law].value(stack, h, s, pace);
        int grains = within(given, 0, h);
        switch (f.kind) {
            case CROWDED: return grains / 2;
            case OLD: return Math.max(grains - 1, 0);
            default: return grains;
        }
    }

    private int slideOf(World w, int d) {
        int steep = w.sea[STEEP];
        int law = w.laws[SLIDES];
        if (law == NONE) {
            return d > steep ? 1 : 0;
        }
        return within(texts[law].value(stack, d, steep, 0), 0, d / 2);
    }

    private int marksOf(World w, Floor f) {
        int law = w.laws[MARKS];
        int together = 0;
        for (int c = 0; c < CELLS; c++) {
            if (f.isCrest(c)) {
                int given = law == NONE ? f.sand[c] : texts[law].value(stack, c, f.sand[c], 0);
                together += within(given, -MOST_MARK, MOST_MARK);
            }
        }
        return together;
    }

    private int oneTick(World w, Floor f) {
        int moved = liftAll(w, f) + slideAll(w, f);
        f.tick++;
        return moved;
    }

    private int liftAll(World w, Floor f) {
        int reach = reachOf(w, f);
        int onwards = f.way() * reach;
        int moved = 0;
        // All lifts are known ahead of the first grain that comes down: none may see the others.
        for (int c = 0; c < CELLS; c++) {
            lifted[c] = liftOf(w, f, c);
        }
        for (int c = 0; c < CELLS; c++) {
            f.sand[c] -= lifted[c];
            f.sand[inRing(c + onwards)] += lifted[c];
            moved += lifted[c];
        }
        return reach > 0 ? moved : 0;
    }

    private int slideAll(World w, Floor f) {
        int moved = 0;
        for (int c = 0; c < CELLS; c++) {
            int to = nextOf(c);
            if (f.sand[c] <= f.sand[to]) {
                to = aheadOf(c);
            }
            int d = f.sand[c] - f.sand[to];
            if (d > 0) {
                int grains = slideOf(w, d);
                f.sand[c] -= grains;
                f.sand[to] += grains;
                moved += grains;
            }
        }
        return moved;
    }

    // ---- what is only thought

    private Floor think(World of, int floor) {
        thought.becomeSea(of);
        thought.floors[0].become(of.floors[floor]);
        return thought.floors[0];
    }

    private Floor thinkBehind(int floor, int what, int v, int ticks) {
        Floor f = think(now, floor);
        thought.sea[what] = v;
        for (int i = 0; i < ticks; i++) {
            oneTick(thought, f);
        }
        return f;
    }

    // ---- the tape

    private void feedNumber(int v) {
        for (int shift = 24; shift >= 0; shift -= 8) {
            if (tapeLength < MOST_BYTES) {
                tape[tapeLength] = (v >>> shift) & 255;
                tapeLength++;
            }
        }
    }

    /** What an image keeps. */
    private static final class World {
        private final Floor[] floors;
        private int floorCount = 0;
        private final int[] sea = {3, 2, 5, 4};
        private int z = 1;
        private int textCount = 0;
        private final int[] laws = {NONE, NONE, NONE};

        private World(int mostFloors) {
            floors = new Floor[Math.max(mostFloors, 0)];
            for (int i = 0; i < floors.length; i++) {
                floors[i] = new Floor();
            }
        }

        private void becomeAll(World other) {
            becomeSea(other);
            z = other.z;
            textCount = other.textCount;
            floorCount = other.floorCount;
            for (int i = 0; i < floorCount && i < floors.length && i < other.floors.length; i++) {
                floors[i].become(other.floors[i]);
            }
        }

        private void becomeSea(World other) {
            System.arraycopy(other.sea, 0, sea, 0, sea.length);
            System.arraycopy(other.laws, 0, laws, 0, laws.length);
        }

        private int draw() {
            z = z * 1103515245 + 12345;
            return z >>> 8;
        }
    }

    /** One ring of sand. */
    private static final class Floor {
        private static final int SAND_AT_FIRST = 20;

        private final int[] sand = new int[CELLS];
        private int tick = 0;
        private int kind = PLAIN;

        private void begin(int newKind) {
            for (int c = 0; c < CELLS; c++) {
                sand[c] = SAND_AT_FIRST;
            }
            tick = 0;
            kind = newKind;
        }

        private void become(Floor other) {
            System.arraycopy(other.sand, 0, sand, 0, CELLS);
            tick = other.tick;
            kind = other.kind;
        }

        private int total() {
            int sum = 0;
            for (int c = 0; c < CELLS; c++) {
                sum += sand[c];
            }
            return sum;
        }

        private int greatest() {
            int most = sand[0];
            for (int c = 1; c < CELLS; c++) {
                most = Math.max(most, sand[c]);
            }
            return most;
        }

        private int least() {
            int fewest = sand[0];
            for (int c = 1; c < CELLS; c++) {
                fewest = Math.min(fewest, sand[c]);
            }
            return fewest;
        }

        private boolean isCrest(int cell) {
            return sand[cell] > sand[aheadOf(cell)] && sand[cell] >= sand[nextOf(cell)];
        }

        private int crests() {
            int many = 0;
            for (int c = 0; c < CELLS; c++) {
                if (isCrest(c)) {
                    many++;
                }
            }
            return many;
        }

        private int lean() {
            int sum = 0;
            for (int c = 0; c < CELLS; c++) {
                sum += Integer.compare(sand[nextOf(c)], sand[c]);
            }
            return sum;
        }

        private int worth() {
            int range = greatest() - least();
            switch (kind) {
                case FITTED: return range + crests();
                case CROWDED: return 2 * (range + crests());
                case BLOWN: return lean();
                case OLD: return lean() + 10;
                case CROSSED: return total() / CELLS;
                default: return range;
            }
        }

        private int way() {
            return kind == BLOWN || kind == OLD || tick % 2 == 0 ? 1 : -1;
        }

        private int unlikeTurned(Floor other, int turn) {
            int many = 0;
            for (int c = 0; c < CELLS; c++) {
                if (sand[c] != other.sand[inRing(c + turn)]) {
                    many++;
                }
            }
            return many;
        }
    }

    /** A row of places; a place with NO NUMBER holds NONE, which lies beyond what shorts and floats may hold. */
    private static final class Sheet {
        private int sort = MISSING;
        private int length = 0;
        private final int[] places = new int[CELLS];

        private void begin(int newSort, int n) {
            sort = newSort;
            length = n;
            for (int i = 0; i < CELLS; i++) {
                places[i] = 0;
            }
        }

        private void become(Sheet other) {
            sort = other.sort;
            length = other.length;
            System.arraycopy(other.places, 0, places, 0, CELLS);
        }

        private boolean hasPlace(int place) {
            return place >= 0 && place < length && place < CELLS;
        }

        private boolean hasStretch(int place, int many) {
            return place >= 0 && many >= 0 && place <= length && many <= length - place;
        }

        private boolean isNumber(int place) {
            return hasPlace(place) && places[place] != NONE;
        }

        private int differences(Floor f) {
            int sum = 0;
            for (int c = 0; c < CELLS; c++) {
                if (isNumber(c)) {
                    sum += Math.abs(places[c] - f.sand[c]);
                }
            }
            return sum;
        }
    }

    /** Holds one thing at most; the rows for all of them are there from the start. */
    private static final class Slot {
        private int thing = EMPTY;
        private final Floor floor = new Floor();
        private final Sheet sheet = new Sheet();
        private int number = 0;
    }

    /**
     * A law, as a row of steps on a stack: a step from 0 on is a number that puts itself there; -1, -2 and -3 put what
     * the first, second and third name stand for; any other is a sign, its byte below 0, and takes from there what it
     * joins.
     */
    private static final class Text {
        private int key = LIFTS;
        private int leaves = 0;
        private int length = 0;
        private final int[] steps = new int[MOST_BYTES];

        private void take(Reader reader) {
            key = reader.key;
            leaves = reader.leaves;
            length = reader.length;
            System.arraycopy(reader.steps, 0, steps, 0, MOST_BYTES);
        }

        private int value(int[] stack, int first, int second, int third) {
            int top = 0;
            for (int i = 0; i < length && i < MOST_BYTES; i++) {
                int step = steps[i];
                if (step >= -3) {
                    if (top >= stack.length) {
                        return 0;
                    }
                    stack[top] = leaf(step, first, second, third);
                    top++;
                } else if (step == -'!') {
                    if (top < 1) {
                        return 0;
                    }
                    stack[top - 1] = stack[top - 1] == 0 ? 1 : 0;
                } else {
                    if (top < 2) {
                        return 0;
                    }
                    top--;
                    stack[top - 1] = joined(-step, stack[top - 1], stack[top]);
                }
            }
            return top == 1 ? stack[0] : 0;
        }

        private static int leaf(int step, int first, int second, int third) {
            switch (step) {
                case -1: return first;
                case -2: return second;
                case -3: return third;
                default: return step;
            }
        }

        private static int joined(int sign, int left, int right) {
            switch (sign) {
                case '|': return left != 0 || right != 0 ? 1 : 0;
                case '&': return left != 0 && right != 0 ? 1 : 0;
                case '<': return left < right ? 1 : 0;
                case '=': return left == right ? 1 : 0;
                case '>': return left > right ? 1 : 0;
                case '+': return left + right;
                case '-': return left - right;
                case '*': return left * right;
                case '/': return right == 0 ? 0 : left / right;
                default: return 0;
            }
        }
    }

    /** Reads a tape as a law: signs wait until what they join is read, those that bind more come first. */
    private static final class Reader {
        private static final String LIFT_WORD = "lift", SLIDE_WORD = "slide", MARK_WORD = "mark";
        private static final String LIFT_NAMES = "hsp", SLIDE_NAMES = "dg", MARK_NAMES = "ch";
        private static final int MOST_DIGITS = 4;
        private static final int MOST_OPEN = 8;
        private static final int TEST_RANK = 3;

        private int key = LIFTS;
        private int leaves = 0;
        private int length = 0;
        private final int[] steps = new int[MOST_BYTES];
        private final int[] signs = new int[MOST_BYTES];
        private int signCount = 0;
        private int openBrackets = 0;
        private int openNots = 0;
        private boolean pieceIsDue = true;

        /** The place of the fault, or -1 if there is none. */
        private int faultOf(int[] tape, int count) {
            begin();
            int from = pastBlanks(tape, 0, count);
            int to = endOfWord(tape, from, count);
            key = keyOf(tape, from, to);
            if (key < 0) {
                return from;
            }
            for (int read = 0; read < count; read++) {
                boolean glued = to > 0 && to < count && isInWord(tape[to - 1]) && isInWord(tape[to]);
                from = pastBlanks(tape, to, count);
                if (from >= count) {
                    break;
                }
                to = endOfWord(tape, from, count);
                boolean fits = pieceIsDue ? !glued && takesPiece(tape, from, to) : takesSign(tape[from]);
                if (!fits) {
                    return from;
                }
            }
            return endsHere() ? -1 : count;
        }

        private void begin() {
            leaves = 0;
            length = 0;
            signCount = 0;
            openBrackets = 0;
            openNots = 0;
            pieceIsDue = true;
        }

        private boolean takesPiece(int[] tape, int from, int to) {
            int first = tape[from];
            if (isDigit(first)) {
                return takesNumber(tape, from, to);
            }
            if (isLetter(first)) {
                return to - from == 1 && takesName(first);
            }
            if (first == '!' && openNots < MOST_OPEN) {
                openNots++;
                return waits(first);
            }
            if (first == '(' && openBrackets < MOST_OPEN) {
                openBrackets++;
                return waits(first);
            }
            return false;
        }

        private boolean takesNumber(int[] tape, int from, int to) {
            if (to - from > MOST_DIGITS) {
                return false;
            }
            int v = 0;
            for (int i = from; i < to; i++) {
                v = v * 10 + tape[i] - '0';
            }
            takeLeaf(v);
            return true;
        }

        private boolean takesName(int letter) {
            int name = namesOf(key).indexOf((char) letter);
            if (name < 0) {
                return false;
            }
            takeLeaf(-1 - name);
            return true;
        }

        private void takeLeaf(int step) {
            leaves++;
            put(step);
            endPiece();
        }

        private void endPiece() {
            pieceIsDue = false;
            while (signCount > 0 && signs[signCount - 1] == '!') {
                signCount--;
                openNots--;
                put(-'!');
            }
        }

        private boolean takesSign(int sign) {
            if (sign == ')') {
                return closesBracket();
            }
            int rank = rankOf(sign);
            if (rank == 0) {
                return false;
            }
            putThoseAbove(rank);
            boolean sameWaits = signCount > 0 && rankOf(signs[signCount - 1]) == rank;
            if (sameWaits && rank == TEST_RANK) {
                return false;
            }
            putThoseAbove(rank - 1);
            pieceIsDue = true;
            return waits(sign);
        }

        private boolean closesBracket() {
            putThoseAbove(0);
            if (openBrackets == 0 || signCount == 0) {
                return false;
            }
            signCount--;
            openBrackets--;
            endPiece();
            return true;
        }

        private boolean endsHere() {
            if (pieceIsDue || openBrackets > 0) {
                return false;
            }
            putThoseAbove(0);
            return true;
        }

        /** Stops at an open bracket, whose rank is 0. */
        private void putThoseAbove(int rank) {
            while (signCount > 0 && rankOf(signs[signCount - 1]) > rank) {
                signCount--;
                put(-signs[signCount]);
            }
        }

        private boolean waits(int sign) {
            if (signCount >= MOST_BYTES) {
                return false;
            }
            signs[signCount] = sign;
            signCount++;
            return true;
        }

        private void put(int step) {
            if (length < MOST_BYTES) {
                steps[length] = step;
                length++;
            }
        }

        private static int rankOf(int sign) {
            switch (sign) {
                case '|': return 1;
                case '&': return 2;
                case '<': case '=': case '>': return TEST_RANK;
                case '+': case '-': return 4;
                case '*': case '/': return 5;
                default: return 0;
            }
        }

        private static int keyOf(int[] tape, int from, int to) {
            for (int k = LIFTS; k <= MARKS; k++) {
                if (isWord(tape, from, to, wordOf(k))) {
                    return k;
                }
            }
            return -1;
        }

        private static String wordOf(int key) {
            switch (key) {
                case LIFTS: return LIFT_WORD;
                case SLIDES: return SLIDE_WORD;
                default: return MARK_WORD;
            }
        }

        private static String namesOf(int key) {
            switch (key) {
                case LIFTS: return LIFT_NAMES;
                case SLIDES: return SLIDE_NAMES;
                default: return MARK_NAMES;
            }
        }

        private static boolean isWord(int[] tape, int from, int to, String word) {
            if (to - from != word.length()) {
                return false;
            }
            for (int i = 0; i < word.length(); i++) {
                if (tape[from + i] != word.charAt(i)) {
                    return false;
                }
            }
            return true;
        }

        private static int pastBlanks(int[] tape, int from, int count) {
            int at = from;
            while (at < count && tape[at] == ' ') {
                at++;
            }
            return at;
        }

        /** Behind a row of letters, a row of digits, or a sign. */
        private static int endOfWord(int[] tape, int from, int count) {
            if (from >= count) {
                return count;
            }
            boolean letters = isLetter(tape[from]);
            boolean digits = isDigit(tape[from]);
            int at = from + 1;
            while (at < count && (letters && isLetter(tape[at]) || digits && isDigit(tape[at]))) {
                at++;
            }
            return at;
        }

        private static boolean isInWord(int b) {
            return isLetter(b) || isDigit(b);
        }

        private static boolean isLetter(int b) {
            return b >= 'a' && b <= 'z';
        }

        private static boolean isDigit(int b) {
            return b >= '0' && b <= '9';
        }
    }
}
