import java.util.Arrays;

/** Strips folded in half by kinds: their creases, where they lie, what comes of it. */
public final class FoldedInHalf {
    public static final int NONE = -1;

    private static final int NOBODY = -1;
    private static final int OTHER = -2;
    private static final int NOTHING = -3;
    private static final int BELOW = -4;
    private static final int BEYOND = -5;
    private static final int WRONG = -6;
    private static final int ROOM = -7;
    private static final long FAR = -2000000000000000L;

    private static final int KIND_STRIP = 0;
    private static final int KIND_SAME = 1;
    private static final int KIND_THIRD = 2;
    private static final int KIND_CUT = 3;
    private static final int KIND_BACK = 4;
    private static final int KIND_GLASS = 5;
    private static final int KIND_LEFT = 6;

    private static final int MOST_SHELVES = 8;
    private static final int MOST_STRIPS = 8;
    private static final int MOST_ELEMENTS = 160;
    private static final int MOST_FOLDS = 40;
    private static final int MOST_THIRDS = 25;
    private static final int MOST_A = 999999;
    private static final int MOST_WALKED = 4000;
    private static final int MOST_OF_FOUR = 1000;
    private static final int MOST_APART = 100;
    private static final int MOST_LEFT = 100000;
    private static final int MOST_REACH = 30;
    private static final int MOST_TOLD = 63;
    private static final int MOST_PIECE = 40;
    private static final int MOST_ENDS = 10;
    private static final int MOST_LEAVES = 8;
    private static final int MOST_HALVES = 6;
    private static final int MOST_BODIES = 20;

    // Twice the 4001 places of the longest walk, so that the tally stays loose.
    private static final int SLOTS = 8192;
    private static final int SLOT_BITS = 13;
    // Doubled coordinates of a walk lie within -8001 to 8001: 14 bits each, shifted above 0.
    private static final int KEY_BITS = 14;
    private static final int KEY_SHIFT = 8192;
    private static final int SPREAD = 0x9E3779B1;

    private static final int[] EAST = {1, 0, -1, 0};
    private static final int[] NORTH = {0, 1, 0, -1};

    private final Shelf[] shelves = new Shelf[MOST_SHELVES];
    private final Strip[] strips = new Strip[MOST_STRIPS];
    private final Strip[] kept = new Strip[MOST_STRIPS];
    private final int[] refusals = new int[8];
    private final int[] bodies = new int[MOST_BODIES];
    private final int[] keys = new int[SLOTS];
    private final int[] times = new int[SLOTS];
    private final int[] rings = new int[MOST_REACH + 1];
    private final Reader reader = new Reader();
    private final Leaves leaves = new Leaves();
    private int stripCount = 0;
    private int keptCount = NONE;
    private int bodyCount = 0;

    public FoldedInHalf() {
        for (int s = 0; s < MOST_SHELVES; s++) {
            shelves[s] = new Shelf();
        }
    }

    // ---- refusals, shelves and strips looked up

    private int refuse(int refusal) {
        int place = -refusal;
        if (place > 0 && place < refusals.length) {
            refusals[place]++;
        }
        return refusal;
    }

    /** For calls whose plain answers go down to NONE. */
    private int refuseTens(int refusal) {
        return refuse(refusal) - 10;
    }

    private Shelf shelfAt(int s) {
        return s >= 0 && s < MOST_SHELVES ? shelves[s] : null;
    }

    private Strip stripAt(int strip) {
        return strip >= 0 && strip < stripCount && strip < MOST_STRIPS ? strips[strip] : null;
    }

    private void putStrip(int number, Strip strip) {
        if (number >= 0 && number < MOST_STRIPS) {
            strips[number] = strip;
        }
    }

    private static void copyStrips(Strip[] from, Strip[] to) {
        for (int i = 0; i < from.length && i < to.length; i++) {
            to[i] = from[i];
        }
    }

    private static int rowTrouble(Shelf shelf) {
        if (shelf == null) {
            return NOBODY;
        }
        if (shelf.shown != NONE) {
            return OTHER;
        }
        return shelf.sort == NONE ? NOTHING : 0;
    }

    private static int toldTrouble(Shelf shelf, int n) {
        int trouble = rowTrouble(shelf);
        if (trouble != 0 || shelf == null) {
            return trouble;
        }
        if (n < 0) {
            return BELOW;
        }
        return n > shelf.length ? BEYOND : 0;
    }

    private static int walkTrouble(Strip strip, int n, int most) {
        if (strip == null) {
            return NOBODY;
        }
        if (n > strip.sides()) {
            return BEYOND;
        }
        return n < 0 || n > most ? WRONG : 0;
    }

    private static Strip make(int kind, int number, int a, int foldCount, long word) {
        switch (kind) {
            case KIND_SAME: return new Same(number, a, foldCount, word);
            case KIND_THIRD: return new Third(number, a, foldCount, word);
            case KIND_CUT: return new Cut(number, a, foldCount, word);
            case KIND_BACK: return new Back(number, a, foldCount, word);
            case KIND_GLASS: return new Glass(number, a, foldCount, word);
            case KIND_LEFT: return new Left(number, a, foldCount, word);
            default: return new Strip(number, a, foldCount, word);
        }
    }

    private static int mostFolds(int kind) {
        return kind == KIND_THIRD ? MOST_THIRDS : MOST_FOLDS;
    }

    // ---- shelves and rows

    public int row(int s, int sort, int n) {
        Shelf shelf = shelfAt(s);
        if (shelf == null) {
            return refuse(NOBODY);
        }
        if (n < 0) {
            return refuse(BELOW);
        }
        if (sort < 0 || sort > 3) {
            return refuse(WRONG);
        }
        if (n > MOST_ELEMENTS) {
            return refuse(ROOM);
        }
        shelf.holdRow(sort, n);
        return 1;
    }

    public int set(int s, int i, long v) {
        Shelf shelf = shelfAt(s);
        int trouble = rowTrouble(shelf);
        if (trouble != 0 || shelf == null) {
            return refuse(trouble);
        }
        if (i < 0 || i >= shelf.length) {
            return refuse(BEYOND);
        }
        shelf.put(i, v);
        return 1;
    }

    public int copy(int p, int q, int i, int j, int n) {
        Shelf from = shelfAt(p);
        Shelf to = shelfAt(q);
        if (from == null || to == null) {
            return refuse(NOBODY);
        }
        if (from.shown != NONE || to.shown != NONE) {
            return refuse(OTHER);
        }
        boolean empty = from.sort == NONE || to.sort == NONE;
        if (!empty && from.sort != to.sort) {
            return refuse(OTHER);
        }
        if (empty) {
            return refuse(NOTHING);
        }
        if (n < 0) {
            return refuse(BELOW);
        }
        if (!from.hasPiece(i, n) || !to.hasPiece(j, n)) {
            return refuse(BEYOND);
        }
        System.arraycopy(from.cells, i, to.cells, j, n);
        return 1;
    }

    public long element(int s, int i) {
        Shelf shelf = shelfAt(s);
        return shelf == null ? 0 : shelf.at(i);
    }

    public int show(int s, int strip) {
        Shelf shelf = shelfAt(s);
        if (shelf == null || strip != NONE && stripAt(strip) == null) {
            return refuse(NOBODY);
        }
        shelf.holdStrip(strip);
        return strip == NONE ? 0 : 1;
    }

    public int holds(int s) {
        Shelf shelf = shelfAt(s);
        if (shelf == null) {
            return NONE;
        }
        return shelf.sort == NONE ? shelf.shown : 100 + shelf.sort;
    }

    public int says(int s, int kind) {
        Shelf shelf = shelfAt(s);
        if (shelf == null || kind < KIND_STRIP || kind > KIND_LEFT) {
            return refuse(NOBODY);
        }
        if (shelf.sort != NONE) {
            return refuse(OTHER);
        }
        Strip strip = stripAt(shelf.shown);
        if (strip == null) {
            return refuse(NOTHING);
        }
        if (!strip.isOf(kind)) {
            return refuse(OTHER);
        }
        switch (kind) {
            case KIND_SAME: return strip.bend(0);
            case KIND_THIRD: return (int) (strip.corners() % 1000);
            case KIND_CUT:
            case KIND_BACK: return (int) (strip.behind() % 1000);
            case KIND_GLASS:
            case KIND_LEFT: return strip.creaseAt(1);
            default: return strip.foldCount;
        }
    }

    /** A shelf whose strip is gone must not show a later one of that number. */
    private void clearShelvesOfNobody() {
        for (int s = 0; s < MOST_SHELVES; s++) {
            Shelf shelf = shelfAt(s);
            if (shelf != null && shelf.shown >= stripCount) {
                shelf.holdStrip(NONE);
            }
        }
    }

    // ---- strips

    public int strip(int kind, int a, int s, int n) {
        Shelf shelf = shelfAt(s);
        if (shelf == null || kind < KIND_STRIP || kind > KIND_LEFT) {
            return refuse(NOBODY);
        }
        int trouble = toldTrouble(shelf, n);
        if (trouble != 0) {
            return refuse(trouble);
        }
        if (n < 1 || n > mostFolds(kind) || a < 0 || a > MOST_A) {
            return refuse(WRONG);
        }
        if (stripCount >= MOST_STRIPS) {
            return refuse(ROOM);
        }
        long word = 0;
        for (int level = 0; level < n; level++) {
            word |= (long) (shelf.number(level) & 1) << level;
        }
        putStrip(stripCount, make(kind, stripCount, a, n, word));
        stripCount++;
        return stripCount - 1;
    }

    public int stripOf(int strip, int what) {
        Strip one = stripAt(strip);
        if (one == null) {
            return refuse(BEYOND);
        }
        switch (what) {
            case 0: return one.kind();
            case 1: return one.a;
            case 2: return one.foldCount;
            default: break;
        }
        int level = what < 10 ? NONE : what - 10;
        return one.hasLevel(level) ? one.letter(level) : refuse(BEYOND);
    }

    public int turn(int strip, int level) {
        Strip one = stripAt(strip);
        if (one == null) {
            return refuse(NOBODY);
        }
        if (!one.hasLevel(level)) {
            return refuse(BEYOND);
        }
        putStrip(strip, make(one.kind(), strip, one.a, one.foldCount, one.turnedWord(level)));
        return one.letter(level);
    }

    public int read(int s) {
        Shelf shelf = shelfAt(s);
        int trouble = rowTrouble(shelf);
        if (trouble != 0 || shelf == null) {
            return refuse(trouble);
        }
        copyStrips(strips, reader.draft);
        reader.count = stripCount;
        reader.tell(shelf);
        if (reader.fault != NONE) {
            return refuse(WRONG);
        }
        copyStrips(reader.draft, strips);
        stripCount = reader.count;
        return reader.items;
    }

    public int fault() {
        return reader.fault;
    }

    public int drop() {
        if (stripCount == 0) {
            return refuse(WRONG);
        }
        stripCount--;
        putStrip(stripCount, null);
        clearShelvesOfNobody();
        return stripCount;
    }

    public int image() {
        copyStrips(strips, kept);
        keptCount = stripCount;
        return stripCount;
    }

    public int restore() {
        if (keptCount == NONE) {
            return refuse(WRONG);
        }
        copyStrips(kept, strips);
        stripCount = keptCount;
        clearShelvesOfNobody();
        return stripCount;
    }

    // ---- creases and places

    public long creases(int strip) {
        Strip one = stripAt(strip);
        return one == null ? refuse(NOBODY) : one.corners();
    }

    public int crease(int strip, long n) {
        Strip one = stripAt(strip);
        if (one == null) {
            return refuse(NOBODY);
        }
        return n < 1 || n > one.corners() ? refuse(BEYOND) : one.creaseAt(n);
    }

    public int way(int strip, long n) {
        Strip one = stripAt(strip);
        if (one == null) {
            return refuse(NOBODY);
        }
        return n < 1 || n > one.sides() ? refuse(BEYOND) : one.walkTo(n - 1).way & 3;
    }

    public long place(int strip, long n, int what) {
        Strip one = stripAt(strip);
        if (one == null) {
            return FAR + refuse(NOBODY);
        }
        if (n < 0 || n > one.sides() || what < 0 || what > 1) {
            return FAR + refuse(BEYOND);
        }
        if (one.isOf(KIND_LEFT) && n > MOST_LEFT) {
            return FAR + refuse(ROOM);
        }
        Walk walk = one.walkTo(n);
        return what == 0 ? walk.x : walk.y;
    }

    // ---- walks

    private void forget() {
        Arrays.fill(times, 0);
    }

    /** Counts (u, v) once more: how often it was counted ahead. */
    private int tally(int u, int v) {
        int key = u + KEY_SHIFT << KEY_BITS | v + KEY_SHIFT;
        int slot = key * SPREAD >>> 32 - SLOT_BITS & SLOTS - 1;
        for (int probe = 0; probe < SLOTS; probe++) {
            if (times[slot] == 0) {
                keys[slot] = key;
            }
            if (keys[slot] == key) {
                times[slot]++;
                return times[slot] - 1;
            }
            slot = slot + 1 & SLOTS - 1;
        }
        return 0;
    }

    private int tallyPlace(Walk walk) {
        return tally((int) walk.x, (int) walk.y);
    }

    public int passed(int strip, int n, int x, int y) {
        Strip one = stripAt(strip);
        int trouble = walkTrouble(one, n, MOST_WALKED);
        if (trouble != 0 || one == null) {
            return refuse(trouble);
        }
        Walk walk = new Walk(one, one.corners());
        int passes = 0;
        for (int i = 0; i <= n; i++) {
            if (walk.isAt(x, y)) {
                passes++;
            }
            walk.step();
        }
        return passes;
    }

    public int most(int strip, int n) {
        Strip one = stripAt(strip);
        int trouble = walkTrouble(one, n, MOST_WALKED);
        if (trouble != 0 || one == null) {
            return refuse(trouble);
        }
        forget();
        Walk walk = new Walk(one, one.corners());
        int most = 0;
        for (int i = 0; i <= n; i++) {
            most = Math.max(most, tallyPlace(walk) + 1);
            walk.step();
        }
        return most;
    }

    public int twice(int strip, int n) {
        Strip one = stripAt(strip);
        int trouble = walkTrouble(one, n, MOST_WALKED);
        if (trouble != 0 || one == null) {
            return refuse(trouble);
        }
        forget();
        Walk walk = new Walk(one, one.corners());
        int again = 0;
        for (int i = 0; i < n; i++) {
            if (tally(walk.middleX(), walk.middleY()) > 0) {
                again++;
            }
            walk.step();
        }
        return again;
    }

    public int cover(int strip, int n) {
        Strip one = stripAt(strip);
        int trouble = walkTrouble(one, n, MOST_WALKED);
        if (trouble != 0 || one == null) {
            return refuse(trouble);
        }
        forget();
        Walk walk = new Walk(one, one.corners());
        int unlike = 0;
        for (int i = 0; i <= n; i++) {
            if (tallyPlace(walk) == 0) {
                unlike++;
            }
            walk.step();
        }
        return unlike;
    }

    public int when(int strip, int x, int y, int i) {
        Strip one = stripAt(strip);
        if (one == null) {
            return refuseTens(NOBODY);
        }
        if (i < 0) {
            return refuseTens(BEYOND);
        }
        long last = Math.min(MOST_WALKED, one.sides());
        Walk walk = new Walk(one, one.corners());
        int ahead = 0;
        for (int time = 0; time <= last; time++) {
            if (walk.isAt(x, y)) {
                if (ahead == i) {
                    return time;
                }
                ahead++;
            }
            walk.step();
        }
        return NONE;
    }

    public int near(int strip, int other, int n, int dx, int dy, int what) {
        Strip one = stripAt(strip);
        Strip two = stripAt(other);
        if (one == null || two == null) {
            return refuse(NOBODY);
        }
        if (n > one.sides() || n > two.sides() || what < 0 || what > 1) {
            return refuse(BEYOND);
        }
        if (n < 0 || n > MOST_WALKED || isFarApart(dx) || isFarApart(dy)) {
            return refuse(WRONG);
        }
        Walk first = new Walk(one, one.corners());
        Walk second = new Walk(two, two.corners());
        long nearest = 0;
        int when = 0;
        for (int time = 0; time <= n; time++) {
            long apartX = second.x + dx - first.x;
            long apartY = second.y + dy - first.y;
            long square = apartX * apartX + apartY * apartY;
            if (time == 0 || square < nearest) {
                nearest = square;
                when = time;
            }
            first.step();
            second.step();
        }
        return what == 0 ? (int) nearest : when;
    }

    private static boolean isFarApart(int d) {
        return d < -MOST_APART || d > MOST_APART;
    }

    public int four(int strip, int n) {
        Strip one = stripAt(strip);
        int trouble = walkTrouble(one, n, MOST_OF_FOUR);
        if (trouble != 0 || one == null) {
            return refuse(trouble);
        }
        forget();
        Arrays.fill(rings, 0);
        Walk walk = new Walk(one, one.corners());
        int limit = MOST_REACH;
        for (int i = 0; i < n; i++) {
            limit = tallyFour(walk.middleX(), walk.middleY(), limit);
            walk.step();
        }
        // Ring r: the sides that reach r from (0, 0) and no farther; there are 16 r - 4.
        int reach = 0;
        while (reach < limit && reach < MOST_REACH && rings[reach + 1] == 16 * reach + 12) {
            reach++;
        }
        return reach;
    }

    /** Goes along a side by all four strips: how far REACH may still be. */
    private int tallyFour(int middleX, int middleY, int limit) {
        int u = middleX;
        int v = middleY;
        int left = limit;
        for (int turn = 0; turn < 4; turn++) {
            int ring = (Math.max(Math.abs(u), Math.abs(v)) + 1) / 2;
            if (ring >= 0 && ring <= left && ring <= MOST_REACH) {
                if (tally(u, v) > 0) {
                    left = ring - 1;
                } else {
                    rings[ring]++;
                }
            }
            int turned = -v;
            v = u;
            u = turned;
        }
        return left;
    }

    // ---- told creases

    private static int levelOf(int n) {
        int level = 0;
        while (level < 31 && (n >> level & 1) == 0) {
            level++;
        }
        return level;
    }

    private static int levelsReached(int n) {
        int levels = 0;
        while (levels < 31 && n >> levels != 0) {
            levels++;
        }
        return levels;
    }

    /** How many of the seen CREASES 1 to n want a letter of a LEVEL. */
    private static int votes(Shelf told, int n, int level, int letter) {
        int count = 0;
        for (int crease = 1; crease <= n; crease++) {
            int seen = told.number(crease - 1);
            if ((seen == 0 || seen == 1) && levelOf(crease) == level) {
                boolean asLetter = (crease >> level & 3) == 1;
                if ((asLetter ? seen : 1 - seen) == letter) {
                    count++;
                }
            }
        }
        return count;
    }

    private static boolean anyWordFits(Shelf told, int n) {
        int levels = levelsReached(n);
        for (int level = 0; level < levels; level++) {
            if (votes(told, n, level, 0) > 0 && votes(told, n, level, 1) > 0) {
                return false;
            }
        }
        return true;
    }

    private static int freeLevels(Shelf told, int n) {
        int levels = levelsReached(n);
        int free = 0;
        for (int level = 0; level < levels; level++) {
            if (votes(told, n, level, 0) == 0 && votes(told, n, level, 1) == 0) {
                free++;
            }
        }
        return free;
    }

    private static int toldTroubleTo63(Shelf shelf, int n) {
        int trouble = toldTrouble(shelf, n);
        return trouble == 0 && n > MOST_TOLD ? WRONG : trouble;
    }

    public int words(int s, int n, int what) {
        Shelf shelf = shelfAt(s);
        int trouble = toldTroubleTo63(shelf, n);
        if (trouble != 0 || shelf == null) {
            return refuseTens(trouble);
        }
        boolean fits = anyWordFits(shelf, n);
        if (what == NONE) {
            return fits ? freeLevels(shelf, n) : NONE;
        }
        if (what < 0 || what >= levelsReached(n) || !fits) {
            return refuseTens(BEYOND);
        }
        return votes(shelf, n, what, 1) > 0 ? 1 : 0;
    }

    public int wrong(int s, int n) {
        Shelf shelf = shelfAt(s);
        int trouble = toldTroubleTo63(shelf, n);
        if (trouble != 0 || shelf == null) {
            return refuseTens(trouble);
        }
        for (int crease = 1; crease <= n; crease++) {
            if (!anyWordFits(shelf, crease)) {
                return crease;
            }
        }
        return NONE;
    }

    public int mend(int s, int n) {
        Shelf shelf = shelfAt(s);
        int trouble = toldTroubleTo63(shelf, n);
        if (trouble != 0 || shelf == null) {
            return refuse(trouble);
        }
        int levels = levelsReached(n);
        int turned = 0;
        for (int level = 0; level < levels; level++) {
            turned += Math.min(votes(shelf, n, level, 0), votes(shelf, n, level, 1));
        }
        return turned;
    }

    public int judge(int strip, int s, int n) {
        Strip one = stripAt(strip);
        Shelf shelf = shelfAt(s);
        if (one == null || shelf == null) {
            return refuseTens(NOBODY);
        }
        int trouble = toldTrouble(shelf, n);
        if (trouble == 0 && n > one.corners()) {
            trouble = BEYOND;
        }
        if (trouble == 0 && n > MOST_TOLD) {
            trouble = WRONG;
        }
        if (trouble != 0) {
            return refuseTens(trouble);
        }
        for (int crease = 1; crease <= n; crease++) {
            int seen = shelf.number(crease - 1);
            if ((seen == 0 || seen == 1) && one.creaseAt(crease) != seen) {
                return crease;
            }
        }
        return NONE;
    }

    /** Whether WORDS of f letters, ones of them 1, end at (x, y): the order of letters is all one. */
    private static boolean endsAt(int f, int ones, int x, int y) {
        int u = 1;
        int v = 0;
        for (int level = 0; level < f; level++) {
            int side = level < ones ? 1 : -1;
            int across = u - side * v;
            v = v + side * u;
            u = across;
        }
        return u == x && v == y;
    }

    public int ends(int f, int x, int y, int what) {
        if (what < 0 || what > 1) {
            return refuse(BEYOND);
        }
        if (f < 1 || f > MOST_ENDS) {
            return refuse(WRONG);
        }
        int fitting = 0;
        for (int ones = 0; ones <= f; ones++) {
            if (endsAt(f, ones, x, y)) {
                fitting |= 1 << ones;
            }
        }
        int count = 0;
        int first = NONE;
        for (int word = 0; word < 1 << f; word++) {
            if ((fitting >> Integer.bitCount(word) & 1) == 1) {
                first = count == 0 ? word : first;
                count++;
            }
        }
        if (what == 0) {
            return count;
        }
        return first == NONE ? refuse(BEYOND) : first;
    }

    /** Which of n told creases are told so, as bits, the last one lowest. */
    private static long toldBits(Shelf told, int n, int crease) {
        long bits = 0;
        for (int i = 0; i < n; i++) {
            bits = bits << 1 | (told.number(i) == crease ? 1 : 0);
        }
        return bits;
    }

    public int piece(int strip, int s, int n, int what) {
        Strip one = stripAt(strip);
        Shelf shelf = shelfAt(s);
        if (one == null || shelf == null) {
            return refuse(NOBODY);
        }
        int trouble = toldTrouble(shelf, n);
        if (trouble == 0 && (what < 0 || what > 1)) {
            trouble = BEYOND;
        }
        if (trouble == 0 && (n < 1 || n > MOST_PIECE)) {
            trouble = WRONG;
        }
        if (trouble != 0) {
            return refuse(trouble);
        }
        // The latest creases are bits of a window, the newest one lowest, as the told ones are.
        long ones = toldBits(shelf, n, 1);
        long seen = toldBits(shelf, n, 0) | ones;
        long last = Math.min(MOST_WALKED, one.corners());
        long window = 0;
        int count = 0;
        int first = NONE;
        for (int crease = 1; crease <= last; crease++) {
            window = window << 1 | one.creaseAt(crease);
            if (crease >= n && (window & seen) == ones) {
                first = count == 0 ? crease - n + 1 : first;
                count++;
            }
        }
        if (what == 0) {
            return count;
        }
        return first == NONE ? refuse(BEYOND) : first;
    }

    // ---- leaves

    public int can(int s, int n) {
        Shelf shelf = shelfAt(s);
        int trouble = toldTrouble(shelf, n);
        if (trouble == 0 && (n < 1 || n > MOST_LEAVES)) {
            trouble = WRONG;
        }
        if (trouble != 0 || shelf == null) {
            return refuse(trouble);
        }
        int used = 0;
        for (int i = 0; i < n; i++) {
            int leaf = shelf.number(i);
            if (leaf < 0 || leaf >= n || (used >> leaf & 1) == 1) {
                return refuse(WRONG);
            }
            used |= 1 << leaf;
        }
        leaves.clear(n);
        for (int i = 0; i < n; i++) {
            int leaf = shelf.number(i);
            if (!leaves.fits(leaf, i)) {
                return 0;
            }
            leaves.lay(leaf, i);
        }
        return 1;
    }

    public int orders(int n) {
        return n < 1 || n > MOST_LEAVES ? refuse(WRONG) : leaves.countOf(n);
    }

    public int order(int n, int i, int place) {
        if (i < 0 || place < 0) {
            return refuse(BEYOND);
        }
        if (n < 1 || n > MOST_LEAVES) {
            return refuse(WRONG);
        }
        if (place >= n || i >= leaves.countOf(n)) {
            return refuse(BEYOND);
        }
        return leaves.leafOf(n, i, place);
    }

    public int page(int f, int place) {
        if (place < 0) {
            return refuse(BEYOND);
        }
        if (f < 1 || f > MOST_HALVES) {
            return refuse(WRONG);
        }
        if (place >= 1 << f) {
            return refuse(BEYOND);
        }
        // Opened fold by fold: the upper half of the layers goes back to the right, turned over.
        int column = 0;
        int columns = 1;
        int layer = place;
        for (int half = 1 << f - 1; half > 0; half >>= 1) {
            columns *= 2;
            if (layer < half) {
                column = columns - 1 - column;
                layer = half - 1 - layer;
            } else {
                layer -= half;
            }
        }
        return column;
    }

    // ---- acts

    private void began(int body) {
        if (bodyCount < MOST_BODIES) {
            bodies[bodyCount] = body;
        }
        bodyCount++;
    }

    public int act(int strip, int act, int x) {
        bodyCount = 0;
        Strip one = stripAt(strip);
        if (one == null) {
            return 0;
        }
        switch (act) {
            case 0: return one.folds(x, this);
            case 1: return one.opens(x, this);
            case 2: return one.lies(x, this);
            default: return 0;
        }
    }

    public int trace(int i) {
        return i >= 0 && i < bodyCount && i < MOST_BODIES ? bodies[i] : NONE;
    }

    public int status(int what) {
        if (what >= 11 && what <= 17) {
            return refusals[what - 10];
        }
        int folds = 0;
        int ones = 0;
        for (int i = 0; i < stripCount; i++) {
            Strip one = stripAt(i);
            if (one != null) {
                folds += one.foldCount;
                ones += Long.bitCount(one.word);
            }
        }
        switch (what) {
            case 0: return stripCount;
            case 1: return folds;
            case 2: return ones;
            case 3: return bodyCount;
            default: return NONE;
        }
    }

    /** Holds nothing, a row or the number of a strip; its cells are kept for the next row. */
    private static final class Shelf {
        private final long[] cells = new long[MOST_ELEMENTS];
        private int length = 0;
        private int sort = NONE;
        private int shown = NONE;

        private void holdRow(int newSort, int n) {
            Arrays.fill(cells, 0);
            shown = NONE;
            sort = newSort;
            length = n;
        }

        private void holdStrip(int number) {
            shown = number;
            sort = NONE;
            length = 0;
        }

        private void put(int i, long v) {
            if (i >= 0 && i < length && i < MOST_ELEMENTS) {
                cells[i] = narrowed(v);
            }
        }

        private long narrowed(long v) {
            switch (sort) {
                case 0: return (byte) v;
                case 1: return (short) v;
                case 2: return (int) v;
                default: return v;
            }
        }

        private long at(int i) {
            return i >= 0 && i < length && i < MOST_ELEMENTS ? cells[i] : 0;
        }

        private int number(int i) {
            return i >= 0 && i < length && i < MOST_ELEMENTS ? (int) cells[i] : 0;
        }

        private boolean hasPiece(int i, int n) {
            return i >= 0 && n >= 0 && length <= MOST_ELEMENTS && i <= length - n;
        }
    }

    /** A strip never changes: turned or with a fold less it is another one, so an image may share it. */
    private static class Strip {
        final int number;
        final int a;
        final int foldCount;
        final long word;

        Strip(int number, int a, int foldCount, long word) {
            this.number = number;
            this.a = a;
            this.foldCount = foldCount;
            this.word = word;
        }

        int kind() {
            return KIND_STRIP;
        }

        boolean isOf(int kind) {
            return kind == KIND_STRIP;
        }

        boolean hasLevel(int level) {
            return level >= 0 && level < foldCount;
        }

        int letter(int level) {
            return (int) (word >>> level & 1);
        }

        /** The letter that the creases of a level go by. */
        int bend(int level) {
            return letter(level);
        }

        long turnedWord(int level) {
            return word ^ 1L << level;
        }

        /** The word without its last level. */
        long lessWord() {
            return word & (1L << foldCount - 1) - 1;
        }

        long wholeSides() {
            return 1L << foldCount;
        }

        /** How many creases are cut off ahead of the first. */
        long behind() {
            return 0;
        }

        long corners() {
            return wholeSides() - 1 - behind();
        }

        long sides() {
            return corners() + 1;
        }

        int creaseAt(long n) {
            long m = n;
            int level = 0;
            while ((m & 1) == 0 && level < MOST_FOLDS) {
                m >>= 1;
                level++;
            }
            return (m & 3) == 1 ? bend(level) : 1 - bend(level);
        }

        /** The walk behind n sides, about to go along side n + 1. */
        Walk walkTo(long n) {
            return wholeWalkTo(n);
        }

        /**
         * Without its level 0 the strip is one of half as many sides, each as long and slanting as
         * two of the strip's: so place n comes from place n / 2 of that one, and so on.
         */
        final Walk wholeWalkTo(long n) {
            Walk walk = new Walk(this, corners());
            walk.x = n >> foldCount;
            for (int level = foldCount - 1; level >= 0; level--) {
                int side = bend(level) == 1 ? 1 : -1;
                boolean odd = (n >> level + 1 & 1) == 1;
                int firstHalf = odd ? walk.way + side : walk.way;
                int secondHalf = odd ? walk.way : walk.way + side;
                walk.spread(1, side);
                walk.way = firstHalf;
                if ((n >> level & 1) == 1) {
                    walk.move();
                    walk.way = secondHalf;
                }
            }
            return walk;
        }

        int folds(int x, FoldedInHalf log) {
            log.began(10);
            return x + number;
        }

        int opens(int x, FoldedInHalf log) {
            log.began(11);
            return folds(x, log) * 2;
        }

        int lies(int x, FoldedInHalf log) {
            log.began(12);
            int opened = opens(x, log);
            return opened ^ folds(x - a, log);
        }
    }

    private static final class Same extends Strip {
        Same(int number, int a, int foldCount, long word) {
            super(number, a, foldCount, word);
        }

        int kind() {
            return KIND_SAME;
        }

        boolean isOf(int kind) {
            return kind == KIND_SAME || kind == KIND_STRIP;
        }

        int bend(int level) {
            return a & 1;
        }

        int folds(int x, FoldedInHalf log) {
            log.began(20);
            return super.folds(x, log) + a;
        }
    }

    private static final class Third extends Strip {
        Third(int number, int a, int foldCount, long word) {
            super(number, a, foldCount, word);
        }

        int kind() {
            return KIND_THIRD;
        }

        boolean isOf(int kind) {
            return kind == KIND_THIRD || kind == KIND_STRIP;
        }

        long wholeSides() {
            long power = 1;
            for (int level = 0; level < foldCount; level++) {
                power *= 3;
            }
            return power;
        }

        int creaseAt(long n) {
            long m = n;
            int level = 0;
            while (m % 3 == 0 && level < MOST_THIRDS) {
                m /= 3;
                level++;
            }
            return m % 3 == 1 ? bend(level) : 1 - bend(level);
        }

        /** As for halves, but three sides make one: on, to the side, on. */
        Walk walkTo(long n) {
            Walk walk = new Walk(this, corners());
            long power = wholeSides();
            long rest = n;
            if (rest >= power) {
                walk.x = 1;
                rest = 0;
            }
            for (int level = foldCount - 1; level >= 0; level--) {
                int side = bend(level) == 1 ? 1 : -1;
                power /= 3;
                walk.spread(2, side);
                if (rest >= power) {
                    rest -= power;
                    walk.move();
                    walk.way += side;
                }
                // Behind two thirds it goes on as ahead of them.
                if (rest >= power) {
                    rest -= power;
                    walk.move();
                    walk.way -= side;
                }
            }
            return walk;
        }

        int opens(int x, FoldedInHalf log) {
            log.began(30);
            return super.opens(x, log) * 3;
        }
    }

    private static class Cut extends Strip {
        Cut(int number, int a, int foldCount, long word) {
            super(number, a, foldCount, word);
        }

        int kind() {
            return KIND_CUT;
        }

        boolean isOf(int kind) {
            return kind == KIND_CUT || kind == KIND_STRIP;
        }

        long behind() {
            long whole = wholeSides() - 1;
            return whole > 0 ? a % whole : 0;
        }

        int creaseAt(long n) {
            return super.creaseAt(n + behind());
        }

        Walk walkTo(long n) {
            Walk walk = wholeWalkTo(behind() + n);
            walk.seeFrom(wholeWalkTo(behind()));
            return walk;
        }

        int opens(int x, FoldedInHalf log) {
            log.began(40);
            return super.opens(x + 1, log);
        }
    }

    private static final class Back extends Cut {
        Back(int number, int a, int foldCount, long word) {
            super(number, a, foldCount, word);
        }

        int kind() {
            return KIND_BACK;
        }

        boolean isOf(int kind) {
            return kind == KIND_BACK || super.isOf(kind);
        }

        int creaseAt(long n) {
            return 1 - super.creaseAt(corners() + 1 - n);
        }

        /** The whole strip walked from its end, so that each side is gone along the other way. */
        Walk walkTo(long n) {
            Walk end = wholeWalkTo(wholeSides());
            end.way = backAlong(wholeSides());
            Walk walk = wholeWalkTo(wholeSides() - n);
            walk.way = backAlong(wholeSides() - n);
            walk.seeFrom(end);
            return walk;
        }

        private int backAlong(long side) {
            return side > 0 ? wholeWalkTo(side - 1).way + 2 : 0;
        }

        int lies(int x, FoldedInHalf log) {
            log.began(50);
            return -super.lies(x, log);
        }

        int folds(int x, FoldedInHalf log) {
            log.began(51);
            return super.folds(x, log) - number;
        }
    }

    private static class Glass extends Strip {
        Glass(int number, int a, int foldCount, long word) {
            super(number, a, foldCount, word);
        }

        int kind() {
            return KIND_GLASS;
        }

        boolean isOf(int kind) {
            return kind == KIND_GLASS || kind == KIND_STRIP;
        }

        int bend(int level) {
            return 1 - letter(level);
        }

        int lies(int x, FoldedInHalf log) {
            log.began(60);
            return super.lies(x, log) ^ 5;
        }
    }

    private static final class Left extends Glass {
        Left(int number, int a, int foldCount, long word) {
            super(number, a, foldCount, word);
        }

        int kind() {
            return KIND_LEFT;
        }

        boolean isOf(int kind) {
            return kind == KIND_LEFT || super.isOf(kind);
        }

        int creaseAt(long n) {
            return (n & 3) == 0 ? 1 : super.creaseAt(n);
        }

        /** 8 sides turn it round by half, 16 bring it back to where it was. */
        Walk walkTo(long n) {
            Walk walk = new Walk(this, corners());
            int left = (int) (n & 15);
            for (int i = 0; i < left; i++) {
                walk.step();
            }
            return walk;
        }

        int folds(int x, FoldedInHalf log) {
            log.began(70);
            return super.folds(x, log) * 2;
        }

        int opens(int x, FoldedInHalf log) {
            log.began(71);
            return super.opens(x - a, log);
        }
    }

    /** A bug on a strip laid out: where it is, and the way in which it goes on. */
    private static final class Walk {
        private final Strip strip;
        private final long corners;
        private long gone = 0;
        private long x = 0;
        private long y = 0;
        private int way = 0;

        private Walk(Strip strip, long corners) {
            this.strip = strip;
            this.corners = corners;
        }

        private void move() {
            x += EAST[way & 3];
            y += NORTH[way & 3];
        }

        private void step() {
            move();
            gone++;
            if (gone <= corners) {
                way += strip.creaseAt(gone) == 1 ? 1 : -1;
            }
        }

        private boolean isAt(int atX, int atY) {
            return x == atX && y == atY;
        }

        /** Doubled, so that the middle of a side stands at whole numbers. */
        private int middleX() {
            return (int) (2 * x) + EAST[way & 3];
        }

        private int middleY() {
            return (int) (2 * y) + NORTH[way & 3];
        }

        /** Lays a side of length 1 along (ahead, across). */
        private void spread(int ahead, int across) {
            long spreadX = ahead * x - across * y;
            y = ahead * y + across * x;
            x = spreadX;
        }

        /** Moves and turns all so that the origin is at (0, 0) and goes way 0. */
        private void seeFrom(Walk origin) {
            x -= origin.x;
            y -= origin.y;
            int turns = origin.way & 3;
            for (int i = 0; i < turns; i++) {
                spread(0, -1);
            }
            way -= origin.way;
        }
    }

    /** Reads a set of strips into a draft, which is taken over only if there is no fault. */
    private static final class Reader {
        private final Strip[] draft = new Strip[MOST_STRIPS];
        private int count = 0;
        private int items = 0;
        private int fault = NONE;
        private Shelf text = null;
        private int at = 0;
        private int numberAt = 0;

        private void tell(Shelf row) {
            text = row;
            at = 0;
            items = 0;
            fault = NONE;
            for (int i = 0; i <= MOST_ELEMENTS; i++) {
                if (stands('s')) {
                    tellStrip();
                } else if (stands('t')) {
                    tellTurn();
                } else {
                    tellLess();
                }
                if (fault != NONE) {
                    return;
                }
                items++;
                if (at >= text.length) {
                    return;
                }
                expect(';');
                if (fault != NONE) {
                    return;
                }
            }
        }

        private boolean stands(int sign) {
            return text != null && at < text.length && text.number(at) == sign;
        }

        private void expect(char sign) {
            if (fault != NONE) {
                return;
            }
            if (stands(sign)) {
                at++;
            } else {
                fault = at;
            }
        }

        private void expectAll(String signs) {
            for (int i = 0; i < signs.length(); i++) {
                expect(signs.charAt(i));
            }
        }

        /** A number of some digits, for which more than a million is all one; NONE behind a fault. */
        private int tellNumber(int mostDigits) {
            numberAt = at;
            int value = NONE;
            for (int digits = 0; fault == NONE && digits < mostDigits && standsDigit(); digits++) {
                int digit = text == null ? 0 : text.number(at) - '0';
                value = Math.min(Math.max(value, 0) * 10 + digit, MOST_A + 1);
                at++;
            }
            if (value == NONE && fault == NONE) {
                fault = at;
            }
            return value;
        }

        private boolean standsDigit() {
            int sign = text != null && at < text.length ? text.number(at) : 0;
            return sign >= '0' && sign <= '9';
        }

        /** A number that may not be is the fault from its first digit on. */
        private int tellBelow(int bound) {
            int value = tellNumber(MOST_ELEMENTS);
            if (fault == NONE && value >= bound) {
                fault = numberAt;
            }
            return value;
        }

        private Strip draftAt(int number) {
            boolean there = fault == NONE && number >= 0 && number < count && number < MOST_STRIPS;
            return there ? draft[number] : null;
        }

        private void putDraft(int number, Strip strip) {
            if (number >= 0 && number < MOST_STRIPS) {
                draft[number] = strip;
            }
        }

        private void tellStrip() {
            int wordAt = at;
            expectAll("strip");
            if (fault == NONE && count >= MOST_STRIPS) {
                fault = wordAt;
            }
            expect(' ');
            int kind = tellBelow(KIND_LEFT + 1);
            expect(' ');
            int a = tellNumber(6);
            expect(' ');
            int lettersAt = at;
            long word = tellWord(mostFolds(kind));
            if (fault == NONE && count < MOST_STRIPS) {
                putDraft(count, make(kind, count, a, at - lettersAt, word));
                count++;
            }
        }

        private long tellWord(int mostLetters) {
            long word = 0;
            int letters = 0;
            while (fault == NONE && letters < mostLetters && (stands('l') || stands('r'))) {
                word |= (stands('l') ? 1L : 0L) << letters;
                letters++;
                at++;
            }
            if (fault == NONE && letters == 0) {
                fault = at;
            }
            return word;
        }

        private void tellTurn() {
            expectAll("turn");
            expect(' ');
            int number = tellBelow(count);
            expect(' ');
            Strip strip = draftAt(number);
            int level = tellBelow(strip == null ? 0 : strip.foldCount);
            if (fault == NONE && strip != null) {
                putDraft(number, make(strip.kind(), number, strip.a, strip.foldCount, strip.turnedWord(level)));
            }
        }

        private void tellLess() {
            expectAll("less");
            expect(' ');
            int number = tellBelow(count);
            Strip strip = draftAt(number);
            if (strip != null && strip.foldCount < 2) {
                fault = numberAt;
            } else if (strip != null) {
                putDraft(number, make(strip.kind(), number, strip.a, strip.foldCount - 1, strip.lessWord()));
            }
        }
    }

    /** Leaves laid one under the other, and all orders of some number of them, found once. */
    private static final class Leaves {
        // The orders of 1 to 8 leaves are 2073 in all; each is kept with 3 bits a place.
        private static final int MOST_ORDERS = 2100;

        private final int[] codes = new int[MOST_ORDERS];
        private final int[] from = new int[MOST_LEAVES + 1];
        private final int[] counts = new int[MOST_LEAVES + 1];
        private final int[] placeOf = new int[MOST_LEAVES];
        private final int[] leafAt = new int[MOST_LEAVES];
        private int codeCount = 0;
        private int size = 0;

        private void clear(int n) {
            size = n;
            Arrays.fill(placeOf, NONE);
        }

        private int placeOfLeaf(int leaf) {
            return leaf >= 0 && leaf < MOST_LEAVES ? placeOf[leaf] : NONE;
        }

        private int leafAtPlace(int place) {
            return place >= 0 && place < MOST_LEAVES ? leafAt[place] : NONE;
        }

        private void lay(int leaf, int place) {
            if (leaf >= 0 && leaf < MOST_LEAVES && place >= 0 && place < MOST_LEAVES) {
                placeOf[leaf] = place;
                leafAt[place] = leaf;
            }
        }

        private void lift(int leaf) {
            if (leaf >= 0 && leaf < MOST_LEAVES) {
                placeOf[leaf] = NONE;
            }
        }

        /** The leaf to which a fold of even or odd beginning joins this one; NONE without one. */
        private int partner(int leaf, int odd) {
            int other = (leaf + odd ^ 1) - odd;
            return other >= 0 && other < size ? other : NONE;
        }

        /** Whether a leaf may come next, at a place, below those that lie already. */
        private boolean fits(int leaf, int place) {
            return closes(leaf, place, 0) && closes(leaf, place, 1);
        }

        /** Whether a fold that ends here has both ends, or none, of every fold within it. */
        private boolean closes(int leaf, int place, int odd) {
            int top = placeOfLeaf(partner(leaf, odd));
            if (top == NONE) {
                return true;
            }
            for (int between = top + 1; between < place; between++) {
                int other = partner(leafAtPlace(between), odd);
                if (other != NONE && placeOfLeaf(other) < top) {
                    return false;
                }
            }
            return true;
        }

        private int countOf(int n) {
            if (n < 1 || n > MOST_LEAVES) {
                return 0;
            }
            if (counts[n] == 0) {
                clear(n);
                from[n] = codeCount;
                grow(this, 0, 0);
                counts[n] = codeCount - from[n];
            }
            return counts[n];
        }

        /** Lays every leaf that fits at a place, and all that may follow, lesser leaves ahead. */
        private static void grow(Leaves leaves, int place, int code) {
            if (place >= leaves.size || place >= MOST_LEAVES) {
                leaves.keep(code);
                return;
            }
            for (int leaf = 0; leaf < leaves.size; leaf++) {
                if (leaves.placeOfLeaf(leaf) == NONE && leaves.fits(leaf, place)) {
                    leaves.lay(leaf, place);
                    grow(leaves, place + 1, code | leaf << 3 * place);
                    leaves.lift(leaf);
                }
            }
        }

        private void keep(int code) {
            if (codeCount < MOST_ORDERS) {
                codes[codeCount] = code;
                codeCount++;
            }
        }

        private int leafOf(int n, int i, int place) {
            if (n < 1 || n > MOST_LEAVES || place < 0 || place >= n || i < 0 || i >= countOf(n)) {
                return NONE;
            }
            int slot = from[n] + i;
            return slot >= 0 && slot < MOST_ORDERS ? codes[slot] >> 3 * place & 7 : NONE;
        }
    }
}
