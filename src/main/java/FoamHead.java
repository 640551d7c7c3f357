import java.util.Arrays;

/** Foam that grows old; ../shared/DOC.md says what each call answers and changes. */
public final class FoamHead {
    private static final int LOW = -1000000;
    private static final int BEYOND = 1;
    private static final int NONE = 2;
    private static final int STATE = 3;
    private static final int FULL = 4;
    private static final int KIND = 5;
    private static final int PARTED = 6;

    private static final int BUBBLES = 16;
    private static final int GLASS = 16;
    private static final int WIDEST = 4;
    /** No two GLASSES stand together in a RING, so 15 others and as many GLASSES are the most there can be. */
    private static final int RING_MOST = 30;
    private static final int MOST = 99999;
    private static final int DRAINED_MOST = 1999999999;
    private static final int TICKS_MOST = 9999;
    private static final int AT_ONCE = 60;
    private static final int SIDES_MOST = 60;
    private static final int TAPE_MOST = 60;
    private static final int WAIT_MOST = 24;
    private static final int NAMES = 5;

    private static final int USES = 3;
    private static final int LAW = 0;
    private static final int BURST = 1;
    private static final int MARK = 2;

    private final World now = new World();
    private final World kept = new World();
    private final World spare = new World();
    private final Reader reader = new Reader();
    private final Search search = new Search();
    private final Voices voices = new Voices();
    private final Sheets sheets = new Sheets();
    private final int[] errors = new int[PARTED + 1];
    private int images;

    public FoamHead() {
    }

    private int no(int error) {
        if (error >= 0 && error < errors.length) {
            errors[error]++;
        }
        return LOW - error;
    }

    private static boolean within(int v, int least, int most) {
        return v >= least && v <= most;
    }

    // ---- bubbles, walls

    public int foam(int w, int h, int gas) {
        if (!within(w, 1, WIDEST) || !within(h, 1, WIDEST) || !within(gas, 0, MOST)) {
            return no(BEYOND);
        }
        now.startAnew(w, h, gas);
        return now.foam.howMany();
    }

    public int bubbleIs(int bubble, int what) {
        Foam foam = now.foam;
        if (!foam.has(bubble)) {
            return no(BEYOND);
        }
        switch (what) {
            case 0: return foam.kind[bubble];
            case 1: return foam.gas[bubble];
            case 2: return foam.water[bubble];
            case 3: return foam.row[bubble];
            case 4: return foam.sides[bubble];
            case 5: return foam.glasses(bubble);
            case 6: return now.dry(bubble);
            case 7: return Kinds.lets(foam.kind[bubble]);
            case 8: return now.mark(bubble);
            default: return no(BEYOND);
        }
    }

    public int as(int bubble, int kind) {
        if (!now.foam.has(bubble) || !Kinds.isOne(kind)) {
            return no(BEYOND);
        }
        if (!Kinds.isUnder(now.foam.kind[bubble], kind)) {
            return no(KIND);
        }
        return now.foam.gas[bubble];
    }

    public int become(int bubble, int kind) {
        if (!now.foam.has(bubble) || !Kinds.isOne(kind)) {
            return no(BEYOND);
        }
        int was = now.foam.kind[bubble];
        now.foam.kind[bubble] = kind;
        return was;
    }

    public int fill(int bubble, int what, int v) {
        if (!now.foam.has(bubble) || !within(what, 0, 1) || !within(v, 0, MOST)) {
            return no(BEYOND);
        }
        int[] held = what == 0 ? now.foam.gas : now.foam.water;
        int was = held[bubble];
        held[bubble] = v;
        return was;
    }

    public int ring(int bubble, int i) {
        if (!now.foam.has(bubble)) {
            return no(BEYOND);
        }
        if (i < 0 || i >= now.foam.sides[bubble]) {
            return no(NONE);
        }
        return now.foam.toldAt(bubble, i);
    }

    public int beside(int one, int other) {
        if (one == other || !areBubbles(one, other)) {
            return no(BEYOND);
        }
        return now.foam.isWall(one, other) ? 1 : 0;
    }

    public int end(int a, int b, int what) {
        if (!areBubbles(a, b) || !within(what, 0, 1)) {
            return no(BEYOND);
        }
        if (!now.foam.isWall(a, b)) {
            return no(STATE);
        }
        return what == 0 ? now.foam.aheadOf(a, b) : now.foam.behind(a, b);
    }

    public int can(int what, int a, int b) {
        if (!within(what, 0, 2) || !now.foam.has(a) || what != 2 && !now.foam.has(b)) {
            return no(BEYOND);
        }
        boolean asked = what == 2 ? now.foam.sides[a] == 3 : now.foam.isWall(a, b);
        if (!asked) {
            return no(STATE);
        }
        switch (what) {
            case 0: return now.foam.canTurn(a, b) ? 1 : 0;
            case 1: return now.foam.canBurst(a, b) ? 1 : 0;
            default: return now.foam.canVanish(a) ? 1 : 0;
        }
    }

    public int turn(int a, int b) {
        if (!areBubbles(a, b)) {
            return no(BEYOND);
        }
        if (!now.foam.canTurn(a, b)) {
            return no(STATE);
        }
        now.foam.turnOver(a, b);
        return now.foam.sides[a];
    }

    public int vanish(int bubble) {
        if (!now.foam.has(bubble)) {
            return no(BEYOND);
        }
        if (!now.foam.canVanish(bubble)) {
            return no(STATE);
        }
        now.foam.lose(bubble);
        return now.foam.howMany();
    }

    public int burst(int a, int b) {
        if (!areBubbles(a, b)) {
            return no(BEYOND);
        }
        if (!now.foam.canBurst(a, b)) {
            return no(STATE);
        }
        now.foam.unite(a, b);
        return Math.min(a, b);
    }

    private boolean areBubbles(int one, int other) {
        return now.foam.has(one) && now.foam.has(other);
    }

    // ---- laws, ticks

    public int feed(long word, int n) {
        if (!within(n, 1, 8)) {
            return no(BEYOND);
        }
        if (now.tapeSize + n > TAPE_MOST) {
            return no(FULL);
        }
        now.takeBytes(word, n);
        return now.tapeSize;
    }

    public int text(int use) {
        if (!within(use, 0, USES - 1)) {
            return no(BEYOND);
        }
        boolean fits = reader.read(now.tape, now.tapeSize, use);
        now.tapeSize = 0;
        if (!fits) {
            return -10 - reader.place;
        }
        now.texts[use].take(reader.code, reader.codes);
        return 1;
    }

    public int untell(int use) {
        if (!within(use, 0, USES - 1)) {
            return no(BEYOND);
        }
        Text text = now.texts[use];
        int was = text.isTold() ? 1 : 0;
        text.size = 0;
        return was;
    }

    public int rule(int what, int v) {
        int was;
        switch (what) {
            case 0:
                if (!within(v, 0, 99)) {
                    return no(BEYOND);
                }
                was = now.rate;
                now.rate = v;
                return was;
            case 1:
                if (!within(v, 0, 999)) {
                    return no(BEYOND);
                }
                was = now.dryness;
                now.dryness = v;
                return was;
            case 2:
                if (!within(v, 1, 99) || v % 10 == 0) {
                    return no(BEYOND);
                }
                was = now.odds;
                now.odds = v;
                return was;
            default:
                return no(BEYOND);
        }
    }

    public int passes(int a, int b) {
        if (!areBubbles(a, b)) {
            return no(BEYOND);
        }
        if (!now.foam.isWall(a, b)) {
            return no(STATE);
        }
        return a < b ? now.passing(a, b) : -now.passing(b, a);
    }

    public int tick(int n) {
        if (!within(n, 1, AT_ONCE)) {
            return no(BEYOND);
        }
        if (now.ticks + n > TICKS_MOST) {
            return no(STATE);
        }
        for (int i = 0; i < n; i++) {
            now.goOn();
        }
        return now.foam.howMany();
    }

    public int stands(int k, int n) {
        if (!within(k, 0, BUBBLES) || !within(n, 1, AT_ONCE)) {
            return no(BEYOND);
        }
        if (now.ticks + n > TICKS_MOST) {
            return no(STATE);
        }
        spare.copyFrom(now);
        for (int i = 0; i <= n; i++) {
            if (spare.foam.howMany() <= k) {
                return i;
            }
            if (i < n) {
                spare.goOn();
            }
        }
        return no(NONE);
    }

    public int seed(int v) {
        int was = now.z;
        now.z = v;
        return was;
    }

    public int all(int what) {
        switch (what) {
            case 0: return now.foam.together(now.foam.gas);
            case 1: return now.foam.together(now.foam.water);
            case 2: return now.drained;
            case 3: return now.foam.turned;
            case 4: return now.foam.vanished;
            case 5: return now.foam.bursts;
            default: return no(BEYOND);
        }
    }

    // ---- what is seen

    public int pace(int bubble) {
        if (!now.foam.has(bubble)) {
            return no(BEYOND);
        }
        return now.rate * (now.foam.sides[bubble] - 6);
    }

    public int sides(int s) {
        if (!within(s, 0, SIDES_MOST)) {
            return no(BEYOND);
        }
        int n = 0;
        for (int b = 0; b < BUBBLES; b++) {
            if (now.foam.has(b) && now.foam.sides[b] == s) {
                n++;
            }
        }
        return n;
    }

    public int around(int s) {
        if (!within(s, 0, SIDES_MOST)) {
            return no(BEYOND);
        }
        int n = 0;
        int sum = 0;
        for (int b = 0; b < BUBBLES; b++) {
            if (now.foam.has(b) && now.foam.sides[b] == s) {
                n += now.foam.sides[b] - now.foam.glasses(b);
                sum += now.foam.sidesBeside(b);
            }
        }
        if (n == 0) {
            return no(NONE);
        }
        return 100 * sum / n;
    }

    public int first(int what) {
        if (!within(what, 0, 3)) {
            return no(BEYOND);
        }
        int[] of = what < 2 ? now.foam.gas : now.foam.sides;
        boolean mostWins = what % 2 == 0;
        int best = -1;
        for (int b = 0; b < BUBBLES; b++) {
            if (now.foam.has(b) && (best < 0 || (mostWins ? of[b] > of[best] : of[b] < of[best]))) {
                best = b;
            }
        }
        return best < 0 ? no(NONE) : best;
    }

    public int way(int one, int other) {
        if (!areBubbles(one, other)) {
            return no(BEYOND);
        }
        search.look(now.foam);
        int walls = search.wallsBetween(one, other);
        return walls < 0 ? no(NONE) : walls;
    }

    public int colour(int k, int bubble) {
        if (!within(k, 1, Search.COLOURS) || !now.foam.has(bubble)) {
            return no(BEYOND);
        }
        search.look(now.foam);
        return search.canPaint(k) ? search.colours[bubble] : no(NONE);
    }

    public int apart(int what) {
        if (!within(what, 0, 1)) {
            return no(BEYOND);
        }
        search.look(now.foam);
        int set = search.mostApart();
        return what == 0 ? Integer.bitCount(set) : set;
    }

    public int marked(int what) {
        if (!within(what, 0, 2)) {
            return no(BEYOND);
        }
        int n = 0;
        int bits = 0;
        int sum = 0;
        for (int b = 0; b < BUBBLES; b++) {
            int mark = now.foam.has(b) ? now.mark(b) : 0;
            if (mark != 0) {
                n++;
                bits |= 1 << b;
                sum += mark;
            }
        }
        return what == 0 ? n : what == 1 ? bits : sum;
    }

    // ---- voices, sheets, images, what is told

    public int voice(int bubble, int voice, int x) {
        if (!now.foam.has(bubble) || !within(voice, 0, Voices.VOICES - 1)) {
            return no(BEYOND);
        }
        int answer = voices.answer(now.foam, bubble, voice, x);
        if (voices.parted) {
            return no(PARTED);
        }
        voices.keepTrace();
        return answer;
    }

    public int body(int i) {
        if (i < 0 || i >= voices.traceSize) {
            return no(NONE);
        }
        return voices.trace[i];
    }

    public int sheet(int sheet, int bits, int n) {
        if (!Sheets.isOne(sheet) || bits != 0 && bits != 8 && bits != 16 && bits != 32) {
            return no(BEYOND);
        }
        if (bits != 0 && n < 0) {
            return no(STATE);
        }
        if (bits != 0 && n > Sheets.NUMBERS) {
            return no(BEYOND);
        }
        sheets.lay(sheet, bits, bits == 0 ? 0 : n);
        return 1;
    }

    public int put(int sheet, int i, int v) {
        if (!Sheets.isOne(sheet)) {
            return no(BEYOND);
        }
        if (sheets.bits[sheet] == 0) {
            return no(NONE);
        }
        if (i < 0 || i >= sheets.size[sheet]) {
            return no(BEYOND);
        }
        sheets.set(sheet, i, v);
        return 1;
    }

    public int move(int sheet, int i, int other, int j, int n) {
        if (!Sheets.isOne(sheet) || !Sheets.isOne(other)) {
            return no(BEYOND);
        }
        if (sheets.bits[sheet] == 0 || sheets.bits[other] == 0) {
            return no(NONE);
        }
        if (sheets.bits[sheet] != sheets.bits[other]) {
            return no(KIND);
        }
        if (!sheets.haveRun(sheet, i, n) || !sheets.haveRun(other, j, n)) {
            return no(BEYOND);
        }
        System.arraycopy(sheets.numbers[sheet], i, sheets.numbers[other], j, n);
        return n;
    }

    public int gases(int sheet) {
        if (!Sheets.isOne(sheet)) {
            return no(BEYOND);
        }
        if (sheets.bits[sheet] == 0) {
            return no(NONE);
        }
        int n = 0;
        for (int b = 0; b < BUBBLES && n < sheets.size[sheet]; b++) {
            if (now.foam.has(b)) {
                int v = sheets.numbers[sheet][n];
                if (!within(v, 0, MOST)) {
                    return n;
                }
                now.foam.gas[b] = v;
                n++;
            }
        }
        return n;
    }

    public int image() {
        kept.copyFrom(now);
        images++;
        return images;
    }

    public int restore() {
        if (images == 0) {
            return no(NONE);
        }
        now.copyFrom(kept);
        return now.foam.howMany();
    }

    public int tell(int v) {
        if (now.waitingSize >= WAIT_MOST) {
            return no(FULL);
        }
        now.waiting[now.waitingSize] = v;
        now.waitingSize++;
        return now.waitingSize;
    }

    public int check(int bubble) {
        int n = now.waitingSize;
        now.waitingSize = 0;
        if (!now.foam.has(bubble)) {
            return no(BEYOND);
        }
        int sides = now.foam.sides[bubble];
        int same = 0;
        while (same < n && same < sides && now.waiting[same] == now.foam.toldAt(bubble, same)) {
            same++;
        }
        return same == n && same == sides ? 0 : 1 + same;
    }

    public int count(int what) {
        switch (what) {
            case 0: return now.foam.howMany();
            case 1: return now.foam.alive;
            case 2: return now.foam.walls();
            case 3: return now.ticks;
            case 4: return now.tapeSize;
            case 5: return now.waitingSize;
            case 6: return voices.traceSize;
            case 7: return now.z;
            default: return no(BEYOND);
        }
    }

    public int told(int k) {
        if (!within(k, BEYOND, PARTED)) {
            return no(BEYOND);
        }
        return errors[k];
    }

    /** What the KINDS differ in. */
    private static final class Kinds {
        static final int BUBBLE = 0;
        static final int THICK = 3;
        static final int JOINED = 6;
        static final int MOST_KIND = 6;
        private static final int HEAVY = 1;
        private static final int MIXED = 2;
        private static final int FAT = 4;
        private static final int CREAM = 5;
        private static final int BUBBLE_LETS = 12;
        private static final int HEAVY_LETS = 4;
        private static final int[] ABOVE = {-1, BUBBLE, HEAVY, BUBBLE, BUBBLE, THICK, BUBBLE};

        private Kinds() {
        }

        static boolean isOne(int kind) {
            return kind >= 0 && kind <= MOST_KIND;
        }

        static int above(int kind) {
            return isOne(kind) ? ABOVE[kind] : -1;
        }

        static boolean isUnder(int kind, int top) {
            int k = kind;
            for (int i = 0; i <= MOST_KIND && k >= 0; i++) {
                if (k == top) {
                    return true;
                }
                k = above(k);
            }
            return false;
        }

        static int lets(int kind) {
            switch (kind) {
                case HEAVY: return HEAVY_LETS;
                case MIXED: return HEAVY_LETS + 3;
                case FAT: return BUBBLE_LETS / 2;
                case CREAM: return BUBBLE_LETS - 2;
                default: return BUBBLE_LETS;
            }
        }

        static int dry(int kind, int dryness) {
            switch (kind) {
                case THICK: return dryness / 2;
                case FAT: return dryness * 2;
                case CREAM: return 0;
                default: return dryness;
            }
        }
    }

    /** The BUBBLES and their RINGS; nothing here knows of laws, draws or what is counted. */
    private static final class Foam {
        private static final int AROUND = 6;
        private static final int[] ROW_STEP = {0, 1, 1, 0, -1, -1};
        private static final int[] ODD_STEP = {1, 1, 0, -1, 0, 1};
        private static final int[] EVEN_STEP = {1, 0, -1, -1, -1, 0};

        int alive;
        final int[] kind = new int[BUBBLES];
        final int[] gas = new int[BUBBLES];
        final int[] water = new int[BUBBLES];
        final int[] row = new int[BUBBLES];
        final int[] sides = new int[BUBBLES];
        int turned;
        int vanished;
        int bursts;
        private final int[][] rings = new int[BUBBLES][RING_MOST];
        private final int[] joined = new int[RING_MOST];

        void copyFrom(Foam other) {
            alive = other.alive;
            turned = other.turned;
            vanished = other.vanished;
            bursts = other.bursts;
            System.arraycopy(other.kind, 0, kind, 0, BUBBLES);
            System.arraycopy(other.gas, 0, gas, 0, BUBBLES);
            System.arraycopy(other.water, 0, water, 0, BUBBLES);
            System.arraycopy(other.row, 0, row, 0, BUBBLES);
            System.arraycopy(other.sides, 0, sides, 0, BUBBLES);
            for (int b = 0; b < BUBBLES; b++) {
                System.arraycopy(other.rings[b], 0, rings[b], 0, RING_MOST);
            }
        }

        void make(int w, int h, int gasOfEach) {
            alive = 0;
            turned = 0;
            vanished = 0;
            bursts = 0;
            Arrays.fill(sides, 0);
            for (int r = 0; r < h; r++) {
                for (int c = 0; c < w; c++) {
                    int b = r * w + c;
                    if (b < BUBBLES) {
                        alive |= 1 << b;
                        kind[b] = Kinds.BUBBLE;
                        gas[b] = gasOfEach;
                        water[b] = 0;
                        row[b] = r;
                        makeRing(b, w, h, c);
                    }
                }
            }
        }

        private void makeRing(int b, int w, int h, int c) {
            int[] steps = row[b] % 2 == 1 ? ODD_STEP : EVEN_STEP;
            int n = 0;
            for (int i = 0; i < AROUND; i++) {
                int toRow = row[b] + ROW_STEP[i];
                int toColumn = c + steps[i];
                boolean is = toRow >= 0 && toRow < h && toColumn >= 0 && toColumn < w;
                int x = is ? toRow * w + toColumn : GLASS;
                if (n == 0 || x != GLASS || rings[b][n - 1] != GLASS) {
                    rings[b][n] = x;
                    n++;
                }
            }
            if (n > 1 && rings[b][0] == GLASS && rings[b][n - 1] == GLASS) {
                n--;
            }
            sides[b] = n;
        }

        boolean has(int b) {
            return b >= 0 && b < BUBBLES && (alive >>> b & 1) == 1;
        }

        int howMany() {
            return Integer.bitCount(alive);
        }

        int together(int[] of) {
            int sum = 0;
            for (int b = 0; b < BUBBLES && b < of.length; b++) {
                if (has(b)) {
                    sum += of[b];
                }
            }
            return sum;
        }

        /** What is GONE, GLASS, or none at all has no SIDES. */
        int sidesOf(int b) {
            return b >= 0 && b < BUBBLES ? sides[b] : 0;
        }

        /** What stands at a place of a RING, which has no end: one step behind the last is the first again. */
        int at(int b, int i) {
            if (b < 0 || b >= BUBBLES || sides[b] <= 0 || sides[b] > RING_MOST) {
                return -1;
            }
            return rings[b][Math.floorMod(i, sides[b])];
        }

        int placeOf(int b, int x) {
            if (b < 0 || b >= BUBBLES) {
                return -1;
            }
            for (int i = 0; i < sides[b] && i < RING_MOST; i++) {
                if (rings[b][i] == x) {
                    return i;
                }
            }
            return -1;
        }

        int toldAt(int b, int i) {
            int start = 0;
            int n = sidesOf(b);
            for (int j = 1; j < n; j++) {
                if (at(b, j) < at(b, start)) {
                    start = j;
                }
            }
            return at(b, start + i);
        }

        int glasses(int b) {
            int found = 0;
            int n = sidesOf(b);
            for (int i = 0; i < n; i++) {
                if (at(b, i) == GLASS) {
                    found++;
                }
            }
            return found;
        }

        int bitsBeside(int b) {
            int bits = 0;
            int n = sidesOf(b);
            for (int i = 0; i < n; i++) {
                int x = at(b, i);
                if (has(x)) {
                    bits |= 1 << x;
                }
            }
            return bits;
        }

        int sidesBeside(int b) {
            int sum = 0;
            int n = sidesOf(b);
            for (int i = 0; i < n; i++) {
                sum += sidesOf(at(b, i));
            }
            return sum;
        }

        int walls() {
            int twice = 0;
            for (int b = 0; b < BUBBLES; b++) {
                twice += Integer.bitCount(bitsBeside(b));
            }
            return twice / 2;
        }

        boolean isWall(int a, int b) {
            return has(a) && has(b) && placeOf(a, b) >= 0;
        }

        int aheadOf(int a, int b) {
            return at(a, placeOf(a, b) - 1);
        }

        int behind(int a, int b) {
            return at(a, placeOf(a, b) + 1);
        }

        private boolean canLoseOne(int x) {
            return x == GLASS || sidesOf(x) >= 4;
        }

        private boolean touch(int c, int d) {
            return c == GLASS ? placeOf(d, GLASS) >= 0 : placeOf(c, d) >= 0;
        }

        boolean canTurn(int a, int b) {
            if (!isWall(a, b) || sides[a] < 4 || sides[b] < 4) {
                return false;
            }
            int c = aheadOf(a, b);
            int d = behind(a, b);
            return c != d && !touch(c, d);
        }

        boolean canVanish(int b) {
            if (sidesOf(b) != 3) {
                return false;
            }
            return canLoseOne(at(b, 0)) && canLoseOne(at(b, 1)) && canLoseOne(at(b, 2));
        }

        boolean canBurst(int a, int b) {
            if (!isWall(a, b)) {
                return false;
            }
            int c = aheadOf(a, b);
            int d = behind(a, b);
            if (c == d || !canLoseOne(c) || !canLoseOne(d)) {
                return false;
            }
            int n = sidesOf(a);
            for (int i = 0; i < n; i++) {
                int x = at(a, i);
                if (x != c && x != d && placeOf(b, x) >= 0) {
                    return false;
                }
            }
            return true;
        }

        void turnOver(int a, int b) {
            int c = aheadOf(a, b);
            int d = behind(a, b);
            takeOut(a, b);
            takeOut(b, a);
            // the way a clock goes, b stands ahead of a for c, and a ahead of b for d
            putBehind(c, b, d);
            putBehind(d, a, c);
            turned++;
        }

        void lose(int b) {
            int n = sidesOf(b);
            for (int i = 0; i < n; i++) {
                takeOut(at(b, i), b);
            }
            bury(b);
            vanished++;
        }

        void unite(int a, int b) {
            int left = Math.min(a, b);
            int gone = Math.max(a, b);
            if (!has(left) || !has(gone)) {
                return;
            }
            int n = joinRings(left, gone);
            for (int x = 0; x < BUBBLES; x++) {
                if (x != left && placeOf(x, gone) >= 0) {
                    standForBoth(x, left, gone);
                }
            }
            System.arraycopy(joined, 0, rings[left], 0, n);
            sides[left] = n;
            kind[left] = Kinds.JOINED;
            gas[left] = Math.min(MOST, gas[left] + gas[gone]);
            water[left] = Math.min(MOST, water[left] + water[gone]);
            bury(gone);
            bursts++;
        }

        /** From the END behind round to the END ahead, then what the other one has between these. */
        private int joinRings(int left, int gone) {
            int n = 0;
            int from = placeOf(left, gone) + 1;
            int ofLeft = sidesOf(left) - 1;
            for (int i = 0; i < ofLeft && n < RING_MOST; i++) {
                joined[n] = at(left, from + i);
                n++;
            }
            from = placeOf(gone, left) + 2;
            int ofGone = sidesOf(gone) - 3;
            for (int i = 0; i < ofGone && n < RING_MOST; i++) {
                joined[n] = at(gone, from + i);
                n++;
            }
            return n;
        }

        private void standForBoth(int x, int left, int gone) {
            int place = placeOf(x, gone);
            if (placeOf(x, left) >= 0) {
                takeOut(x, gone);
            } else if (place >= 0 && place < RING_MOST) {
                rings[x][place] = left;
            }
        }

        private void bury(int b) {
            if (has(b)) {
                alive &= ~(1 << b);
                sides[b] = 0;
            }
        }

        private void takeOut(int b, int x) {
            int place = placeOf(b, x);
            if (place < 0) {
                return;
            }
            int n = sidesOf(b) - 1;
            for (int i = place; i < n && i + 1 < RING_MOST; i++) {
                rings[b][i] = rings[b][i + 1];
            }
            sides[b] = n;
        }

        private void putBehind(int b, int known, int x) {
            int place = placeOf(b, known);
            int n = sidesOf(b);
            if (place < 0 || n >= RING_MOST) {
                return;
            }
            for (int i = n; i > place + 1; i--) {
                rings[b][i] = rings[b][i - 1];
            }
            rings[b][place + 1] = x;
            sides[b] = n + 1;
        }
    }

    /** A TEXT as it is worked out: what stands left and right first, the sign behind both. */
    private static final class Text {
        private static final int SIGNS = -100;

        int size;
        private final int[] code = new int[TAPE_MOST];
        private final int[] open = new int[TAPE_MOST];

        static int ofName(int name) {
            return -1 - name;
        }

        static int ofSign(char sign) {
            return SIGNS - sign;
        }

        boolean isTold() {
            return size > 0;
        }

        void take(int[] from, int n) {
            if (n >= 0 && n <= TAPE_MOST && n <= from.length) {
                System.arraycopy(from, 0, code, 0, n);
                size = n;
            }
        }

        void copyFrom(Text other) {
            take(other.code, other.size);
        }

        int value(int[] names) {
            int n = 0;
            for (int i = 0; i < size && i < TAPE_MOST; i++) {
                int c = code[i];
                if (c > SIGNS) {
                    if (n < TAPE_MOST) {
                        open[n] = plain(c, names);
                        n++;
                    }
                } else if (c == ofSign('!')) {
                    if (n >= 1) {
                        open[n - 1] = open[n - 1] == 0 ? 1 : 0;
                    }
                } else if (n >= 2) {
                    n--;
                    open[n - 1] = worked((char) (SIGNS - c), open[n - 1], open[n]);
                }
            }
            return n > 0 ? open[n - 1] : 0;
        }

        private static int plain(int c, int[] names) {
            if (c >= 0) {
                return c;
            }
            int name = -1 - c;
            return name < names.length ? names[name] : 0;
        }

        private static int worked(char sign, int a, int b) {
            switch (sign) {
                case '|': return a != 0 || b != 0 ? 1 : 0;
                case '&': return a != 0 && b != 0 ? 1 : 0;
                case '<': return a < b ? 1 : 0;
                case '=': return a == b ? 1 : 0;
                case '>': return a > b ? 1 : 0;
                case '+': return a + b;
                case '-': return a - b;
                case '*': return a * b;
                case '/': return b == 0 ? 0 : a / b;
                case '%': return b == 0 ? 0 : a % b;
                default: return 0;
            }
        }
    }

    /** Reads THE TAPE; it stops at the first byte that fits nowhere, so its place is the FAULT. */
    private static final class Reader {
        private static final int OPEN_MOST = 5;
        private static final int DIGITS = 4;
        private static final int END = -1;

        int place;
        int codes;
        final int[] code = new int[TAPE_MOST];
        private final int[] bytes = new int[TAPE_MOST];
        private int size;
        private String names = "";
        private boolean wrong;

        private static String namesOf(int use) {
            switch (use) {
                case LAW: return "stghn";
                case BURST: return "wvstn";
                default: return "sgwrk";
            }
        }

        boolean read(int[] tape, int n, int use) {
            size = Math.max(0, Math.min(n, Math.min(tape.length, TAPE_MOST)));
            System.arraycopy(tape, 0, bytes, 0, size);
            names = namesOf(use);
            place = 0;
            codes = 0;
            wrong = false;
            either(0);
            return !wrong && place == size;
        }

        private int next() {
            return !wrong && place >= 0 && place < size && place < TAPE_MOST ? bytes[place] : END;
        }

        private boolean nextIs(char sign) {
            return next() == sign;
        }

        private void note(int c) {
            if (codes < TAPE_MOST) {
                code[codes] = c;
                codes++;
            }
        }

        private void either(int open) {
            both(open);
            for (int i = 0; i < TAPE_MOST && nextIs('|'); i++) {
                place++;
                both(open);
                note(Text.ofSign('|'));
            }
        }

        private void both(int open) {
            compared(open);
            for (int i = 0; i < TAPE_MOST && nextIs('&'); i++) {
                place++;
                compared(open);
                note(Text.ofSign('&'));
            }
        }

        private void compared(int open) {
            sum(open);
            if (nextIs('<') || nextIs('=') || nextIs('>')) {
                char sign = (char) next();
                place++;
                sum(open);
                note(Text.ofSign(sign));
            }
        }

        private void sum(int open) {
            product(open);
            for (int i = 0; i < TAPE_MOST && (nextIs('+') || nextIs('-')); i++) {
                char sign = (char) next();
                place++;
                product(open);
                note(Text.ofSign(sign));
            }
        }

        private void product(int open) {
            single(open);
            for (int i = 0; i < TAPE_MOST && (nextIs('*') || nextIs('/') || nextIs('%')); i++) {
                char sign = (char) next();
                place++;
                single(open);
                note(Text.ofSign(sign));
            }
        }

        private void single(int outside) {
            int open = outside;
            while (open < OPEN_MOST && nextIs('!')) {
                place++;
                open++;
            }
            int c = next();
            int name = c < 0 ? -1 : names.indexOf((char) c);
            if (isDigit(c)) {
                number();
            } else if (name >= 0 && name < NAMES) {
                place++;
                note(Text.ofName(name));
            } else if (c == '(' && open < OPEN_MOST) {
                place++;
                either(open + 1);
                close();
            } else {
                wrong = true;
            }
            for (int i = outside; i < open; i++) {
                note(Text.ofSign('!'));
            }
        }

        private void close() {
            if (nextIs(')')) {
                place++;
            } else {
                wrong = true;
            }
        }

        private static boolean isDigit(int c) {
            return c >= '0' && c <= '9';
        }

        private void number() {
            int v = 0;
            for (int i = 0; i < DIGITS && isDigit(next()); i++) {
                v = v * 10 + next() - '0';
                place++;
            }
            note(v);
        }
    }

    /** All that an IMAGE keeps: the FOAM, its laws, draws and TICKS, THE TAPE and what waits. */
    private static final class World {
        private static final int HELD = 9999;

        final Foam foam = new Foam();
        final Text[] texts = {new Text(), new Text(), new Text()};
        final int[] tape = new int[TAPE_MOST];
        int tapeSize;
        final int[] waiting = new int[WAIT_MOST];
        int waitingSize;
        int rate = 10;
        int dryness = 5;
        int odds = 12;
        int z = 1;
        int ticks;
        int drained;
        private final int[] names = new int[NAMES];
        private final int[] moved = new int[BUBBLES];

        void copyFrom(World other) {
            foam.copyFrom(other.foam);
            for (int use = 0; use < USES; use++) {
                texts[use].copyFrom(other.texts[use]);
            }
            System.arraycopy(other.tape, 0, tape, 0, TAPE_MOST);
            tapeSize = other.tapeSize;
            System.arraycopy(other.waiting, 0, waiting, 0, WAIT_MOST);
            waitingSize = other.waitingSize;
            rate = other.rate;
            dryness = other.dryness;
            odds = other.odds;
            z = other.z;
            ticks = other.ticks;
            drained = other.drained;
        }

        void startAnew(int w, int h, int gas) {
            foam.make(w, h, gas);
            ticks = 0;
            drained = 0;
        }

        void takeBytes(long word, int n) {
            for (int i = 0; i < n && tapeSize < TAPE_MOST; i++) {
                tape[tapeSize] = (int) (word >>> 8 * i & 255);
                tapeSize++;
            }
        }

        int dry(int b) {
            return foam.has(b) ? Kinds.dry(foam.kind[b], dryness) : 0;
        }

        private int law(int a, int b) {
            if (!texts[LAW].isTold()) {
                return foam.sides[b] - foam.sides[a];
            }
            name(foam.sides[a], foam.sides[b], foam.gas[a], foam.gas[b], ticks);
            return texts[LAW].value(names);
        }

        private int burstOf(int a, int b) {
            int less = Math.min(foam.water[a], foam.water[b]);
            int more = Math.max(foam.water[a], foam.water[b]);
            if (!texts[BURST].isTold()) {
                return less < dry(a) || less < dry(b) ? 1 : 0;
            }
            name(less, more, foam.sides[a], foam.sides[b], ticks);
            return texts[BURST].value(names);
        }

        int mark(int b) {
            if (!foam.has(b) || !texts[MARK].isTold()) {
                return 0;
            }
            name(foam.sides[b], foam.gas[b], foam.water[b], foam.row[b], foam.kind[b]);
            return texts[MARK].value(names);
        }

        /** In the order in which the Reader has the NAMES of the USE. */
        private void name(int first, int second, int third, int fourth, int fifth) {
            names[0] = first;
            names[1] = second;
            names[2] = third;
            names[3] = fourth;
            names[4] = fifth;
        }

        int passing(int a, int b) {
            if (!foam.has(a) || !foam.has(b)) {
                return 0;
            }
            long flow = (long) rate * law(a, b);
            flow = Math.max(-HELD, Math.min(HELD, flow));
            return (int) (flow * Kinds.lets(foam.kind[a]) * Kinds.lets(foam.kind[b]) / 144);
        }

        void goOn() {
            passGas();
            runDown();
            burstDry();
            loseEmpty();
            ticks = Math.min(TICKS_MOST, ticks + 1);
        }

        private void passGas() {
            for (int a = 0; a < BUBBLES; a++) {
                for (int b = a + 1; b < BUBBLES; b++) {
                    if (foam.isWall(a, b)) {
                        int flow = passing(a, b);
                        give(flow < 0 ? b : a, flow < 0 ? a : b, Math.abs(flow));
                    }
                }
            }
        }

        private void give(int from, int to, int flow) {
            int room = MOST - foam.gas[to];
            int given = Math.min(flow, Math.min(foam.gas[from], room));
            foam.gas[from] -= given;
            foam.gas[to] += given;
        }

        private void runDown() {
            Arrays.fill(moved, 0);
            for (int b = 0; b < BUBBLES; b++) {
                if (foam.has(b)) {
                    giveWater(b);
                }
            }
            for (int b = 0; b < BUBBLES; b++) {
                if (foam.has(b)) {
                    int water = foam.water[b] + moved[b];
                    foam.water[b] = Math.min(MOST, water);
                    drain(water - foam.water[b]);
                }
            }
        }

        /** What moves is only noted, so that all give of what they had ahead of this step. */
        private void giveWater(int b) {
            int given = foam.water[b] / (Kinds.isUnder(foam.kind[b], Kinds.THICK) ? 8 : 4);
            int below = bitsBelow(b);
            int n = Integer.bitCount(below);
            if (n > 0) {
                int each = given / n;
                for (int x = 0; x < BUBBLES; x++) {
                    if ((below >>> x & 1) == 1) {
                        moved[x] += each;
                    }
                }
                moved[b] -= each * n;
            } else if (foam.glasses(b) > 0) {
                moved[b] -= given;
                drain(given);
            }
        }

        private int bitsBelow(int b) {
            int bits = foam.bitsBeside(b);
            for (int x = 0; x < BUBBLES; x++) {
                if (foam.row[x] <= foam.row[b]) {
                    bits &= ~(1 << x);
                }
            }
            return bits;
        }

        private void drain(int water) {
            drained = (int) Math.min((long) DRAINED_MOST, (long) drained + water);
        }

        private void burstDry() {
            for (int a = 0; a < BUBBLES; a++) {
                for (int b = a + 1; b < BUBBLES; b++) {
                    if (foam.isWall(a, b) && burstOf(a, b) != 0 && drawn() && foam.canBurst(a, b)) {
                        foam.unite(a, b);
                    }
                }
            }
        }

        private boolean drawn() {
            z = z * 1103515245 + 12345;
            int q = odds % 10;
            return q > 0 && (z >>> 8) % q < odds / 10;
        }

        private void loseEmpty() {
            for (int b = 0; b < BUBBLES; b++) {
                if (foam.has(b) && foam.gas[b] == 0) {
                    if (foam.canVanish(b)) {
                        foam.lose(b);
                    } else if (foam.sides[b] > 3) {
                        turnFirst(b);
                    }
                }
            }
        }

        private void turnFirst(int b) {
            int n = foam.sidesOf(b);
            for (int i = 0; i < n; i++) {
                int x = foam.toldAt(b, i);
                if (foam.canTurn(b, x)) {
                    foam.turnOver(b, x);
                    return;
                }
            }
        }
    }

    /** WAYS, COLOURS and what is APART, over who stands beside whom as bits. */
    private static final class Search {
        static final int COLOURS = 4;

        final int[] colours = new int[BUBBLES];
        private final int[] beside = new int[BUBBLES];
        private final int[] painted = new int[COLOURS];
        private int alive;

        void look(Foam foam) {
            alive = foam.alive;
            for (int b = 0; b < BUBBLES; b++) {
                beside[b] = foam.bitsBeside(b);
            }
        }

        int wallsBetween(int one, int other) {
            int reached = 1 << one;
            for (int walls = 0; walls < BUBBLES; walls++) {
                if ((reached >>> other & 1) == 1) {
                    return walls;
                }
                reached |= besideAny(reached);
            }
            return -1;
        }

        private int besideAny(int set) {
            int bits = 0;
            for (int b = 0; b < BUBBLES; b++) {
                if ((set >>> b & 1) == 1) {
                    bits |= beside[b];
                }
            }
            return bits;
        }

        boolean canPaint(int k) {
            Arrays.fill(painted, 0);
            return paintFrom(this, 0, k, 0);
        }

        /** Colours that none has yet are all alike, so of these only the least is tried. */
        private static boolean paintFrom(Search in, int b, int k, int used) {
            if (b < 0 || b >= BUBBLES) {
                return true;
            }
            if ((in.alive >>> b & 1) == 0) {
                return paintFrom(in, b + 1, k, used);
            }
            int tried = Math.min(COLOURS, Math.min(k, used + 1));
            for (int c = 0; c < tried; c++) {
                if ((in.painted[c] & in.beside[b]) == 0) {
                    in.painted[c] |= 1 << b;
                    in.colours[b] = c;
                    if (paintFrom(in, b + 1, k, Math.max(used, c + 1))) {
                        return true;
                    }
                    in.painted[c] &= ~(1 << b);
                }
            }
            return false;
        }

        int mostApart() {
            return apartIn(alive, BUBBLES - 1, beside);
        }

        /** The greatest number weighs most in a set as bits: it is in it only if that makes the set greater. */
        private static int apartIn(int set, int top, int[] beside) {
            if (set == 0 || top < 0 || top >= BUBBLES) {
                return 0;
            }
            int bit = 1 << top;
            int without = apartIn(set & ~bit, top - 1, beside);
            if ((set & bit) == 0) {
                return without;
            }
            int with = apartIn(set & ~bit & ~beside[top], top - 1, beside) | bit;
            return Integer.bitCount(with) > Integer.bitCount(without) ? with : without;
        }
    }

    /** The VOICES of the KINDS, and THE TRACE of the latest one. */
    private static final class Voices {
        static final int VOICES = 4;
        private static final int GIVES = 0;
        private static final int TURNS = 1;
        private static final int DRAINS = 2;
        private static final int TELLS = 3;
        private static final int TRACE_MOST = 30;
        private static final int DEPTH_MOST = 40;
        private static final int[] BODIES = {
            10, 11, 12, 13,
            20, 0, 0, 21,
            30, 0, 31, 0,
            0, 41, 40, 0,
            0, 0, 0, 50,
            0, 60, 61, 0,
            70, 0, 0, 0,
        };

        boolean parted;
        int traceSize;
        final int[] trace = new int[TRACE_MOST];
        private final int[] began = new int[TRACE_MOST];
        private int beganSize;
        private int number;
        private int row;
        private int kind;

        int answer(Foam foam, int b, int voice, int x) {
            parted = false;
            beganSize = 0;
            if (!foam.has(b)) {
                return 0;
            }
            number = b;
            row = foam.row[b];
            kind = foam.kind[b];
            return say(voice, kind, x, 0);
        }

        void keepTrace() {
            System.arraycopy(began, 0, trace, 0, TRACE_MOST);
            traceSize = beganSize;
        }

        private static int bodyAt(int kind, int voice) {
            int i = kind * VOICES + voice;
            return kind >= 0 && voice >= 0 && voice < VOICES && i < BODIES.length ? BODIES[i] : 0;
        }

        private int say(int voice, int from, int x, int depth) {
            int of = from;
            for (int i = 0; i <= Kinds.MOST_KIND && of > 0 && bodyAt(of, voice) == 0; i++) {
                of = Kinds.above(of);
            }
            int body = bodyAt(of, voice);
            if (body == 0 || depth >= DEPTH_MOST) {
                return 0;
            }
            if (beganSize < TRACE_MOST) {
                began[beganSize] = body;
                beganSize++;
            }
            return speak(body, Kinds.above(of), x, depth + 1);
        }

        private int speak(int body, int up, int x, int depth) {
            switch (body) {
                case 10: return x + number;
                case 11: return say(GIVES, kind, x, depth) * 2;
                case 12: return say(TURNS, kind, x, depth) - row;
                case 13: return parting(x);
                case 20: return say(GIVES, up, x, depth) - 4;
                case 21: return say(TELLS, up, x, depth) + say(TURNS, kind, 1, depth);
                case 30: return say(GIVES, up, x, depth) * 3;
                case 31: return say(DRAINS, up, x, depth) ^ number;
                case 40: return say(DRAINS, up, x / 2, depth);
                case 41: return 0 - say(TURNS, up, x, depth);
                case 50: return say(TELLS, up, x, depth) - say(GIVES, kind, 2, depth);
                case 60: return say(TURNS, up, x + 1, depth);
                case 61: return say(DRAINS, up, x, depth) + say(TURNS, up, 0, depth);
                case 70: return 7;
                default: return 0;
            }
        }

        private int parting(int x) {
            int by = number - row;
            if (by == 0) {
                parted = true;
                return 0;
            }
            return x / by;
        }
    }

    /** SHEETS hold whole numbers with a sign, cut to their bits. */
    private static final class Sheets {
        static final int NUMBERS = 24;
        private static final int SHEETS = 4;

        final int[] bits = new int[SHEETS];
        final int[] size = new int[SHEETS];
        final int[][] numbers = new int[SHEETS][NUMBERS];

        static boolean isOne(int sheet) {
            return sheet >= 0 && sheet < SHEETS;
        }

        void lay(int sheet, int bitsOfEach, int n) {
            if (isOne(sheet)) {
                bits[sheet] = bitsOfEach;
                size[sheet] = n;
                Arrays.fill(numbers[sheet], 0);
            }
        }

        void set(int sheet, int i, int v) {
            if (isOne(sheet) && i >= 0 && i < NUMBERS) {
                numbers[sheet][i] = bits[sheet] == 8 ? (byte) v : bits[sheet] == 16 ? (short) v : v;
            }
        }

        boolean haveRun(int sheet, int from, int n) {
            return isOne(sheet) && from >= 0 && n >= 0 && (long) from + n <= size[sheet];
        }
    }
}
