import java.util.ArrayList;
import java.util.Arrays;
import java.util.HashMap;
import java.util.HashSet;
import java.util.List;
import java.util.Map;
import java.util.Set;

/**
 * The document once more, as slowly and plainly as can be, by other ways than the class where there
 * are any: words tried one by one, orders by permutations, pages by piles, far places by halves.
 */
final class Model {
    static final int NONE = -1;

    /** A STRIP: its letters are those of the WORD. */
    static final class Piece {
        final int kind;
        final int a;
        final int[] word;

        Piece(int kind, int a, int[] word) {
            this.kind = kind;
            this.a = a;
            this.word = word;
        }

        Piece withLetter(int level, int letter) {
            int[] other = word.clone();
            other[level] = letter;
            return new Piece(kind, a, other);
        }

        Piece shorter() {
            return new Piece(kind, a, Arrays.copyOf(word, word.length - 1));
        }

        int effective(int level) {
            if (kind == 1) {
                return a % 2;
            }
            return kind == 5 || kind == 6 ? 1 - word[level] : word[level];
        }

        long whole() {
            return power(kind == 2 ? 3 : 2, word.length) - 1;
        }

        long b() {
            return kind == 3 || kind == 4 ? a % whole() : 0;
        }

        long creases() {
            return whole() - b();
        }

        int uncut(long n) {
            int base = kind == 2 ? 3 : 2;
            int level = 0;
            long m = n;
            while (m % base == 0) {
                m /= base;
                level++;
            }
            boolean asLetter = kind == 2 ? m % 3 == 1 : m % 4 == 1;
            return asLetter ? effective(level) : 1 - effective(level);
        }

        int crease(long n) {
            switch (kind) {
                case 3: return uncut(n + b());
                case 4: return 1 - uncut(creases() + 1 - n + b());
                case 6: return n % 4 == 0 ? 1 : uncut(n);
                default: return uncut(n);
            }
        }

        /** PLACES 0 to n one by one: x, y. */
        int[][] places(int n) {
            int[][] all = new int[n + 1][2];
            int way = 0;
            for (int i = 1; i <= n; i++) {
                if (i > 1) {
                    way = (way + (crease(i - 1) == 1 ? 1 : 3)) % 4;
                }
                all[i][0] = all[i - 1][0] + (way == 0 ? 1 : way == 2 ? -1 : 0);
                all[i][1] = all[i - 1][1] + (way == 1 ? 1 : way == 3 ? -1 : 0);
            }
            return all;
        }
    }

    static long power(long base, int exponent) {
        long power = 1;
        for (int i = 0; i < exponent; i++) {
            power *= base;
        }
        return power;
    }

    // ---- far places, from the greatest fold down

    /** x, y of (u, v) turned by quarters. */
    static long[] turned(long u, long v, int quarters) {
        switch (Math.floorMod(quarters, 4)) {
            case 0: return new long[] {u, v};
            case 1: return new long[] {-v, u};
            case 2: return new long[] {-u, -v};
            default: return new long[] {v, -u};
        }
    }

    /** Displacement and turns behind n sides (the crease behind side n not counted): x, y, way. */
    static long[] uncutTo(Piece p, long n) {
        return p.kind == 2 ? thirdsTo(p, p.word.length, n) : halvesTo(p, p.word.length, false, n);
    }

    /** Of levels 0 to f - 1, the top one flipped or not; way: that of side n. */
    static long[] halvesTo(Piece p, int f, boolean flip, long n) {
        if (n == 0) {
            return new long[] {0, 0, 0};
        }
        if (f == 0) {
            return new long[] {1, 0, 0};
        }
        long half = 1L << f - 1;
        if (n <= half) {
            return halvesTo(p, f - 1, false, n);
        }
        long[] first = wholeHalf(p, f - 1, false);
        int letter = p.effective(f - 1) ^ (flip ? 1 : 0);
        int turn = (int) first[2] + (letter == 1 ? 1 : -1);
        return joined(first, turn, halvesTo(p, f - 1, true, n - half));
    }

    static long[] wholeHalf(Piece p, int f, boolean flip) {
        long[] plain = {1, 0, 0};
        long[] flipped = {1, 0, 0};
        for (int level = 0; level < f; level++) {
            int turn = (int) plain[2] + (p.effective(level) == 1 ? 1 : -1);
            int other = (int) plain[2] + (p.effective(level) == 1 ? -1 : 1);
            long[] next = joined(plain, turn, flipped);
            flipped = joined(plain, other, flipped);
            plain = next;
        }
        return flip ? flipped : plain;
    }

    static long[] joined(long[] first, int turn, long[] second) {
        long[] moved = turned(second[0], second[1], turn);
        return new long[] {first[0] + moved[0], first[1] + moved[1], turn + second[2]};
    }

    static long[] thirdsTo(Piece p, int f, long n) {
        if (n == 0) {
            return new long[] {0, 0, 0};
        }
        if (f == 0) {
            return new long[] {1, 0, 0};
        }
        long third = power(3, f - 1);
        int turn = p.effective(f - 1) == 1 ? 1 : -1;
        if (n <= third) {
            return thirdsTo(p, f - 1, n);
        }
        long[] one = thirdsTo(p, f - 1, third);
        if (n <= 2 * third) {
            return joined(one, (int) one[2] + turn, thirdsTo(p, f - 1, n - third));
        }
        long[] two = joined(one, (int) one[2] + turn, one);
        return joined(two, (int) two[2] - turn, thirdsTo(p, f - 1, n - 2 * third));
    }

    /** x, y behind n sides and the way of side n; of a LEFT only the way is right when it is far. */
    static long[] far(Piece p, long n) {
        if (p.kind == 6) {
            return leftFar(p, n);
        }
        if (p.kind == 4) {
            long end = p.whole() + 1;
            long[] last = uncutTo(p, end);
            long[] at = uncutTo(p, end - n);
            // Side n of the BACK is side end - n + 1 of the whole, the other way.
            long[] side = uncutTo(p, end - n + 1);
            long[] seen = turned(at[0] - last[0], at[1] - last[1], -(int) (last[2] + 2));
            return new long[] {seen[0], seen[1], n == 0 ? 0 : Math.floorMod(side[2] - last[2], 4)};
        }
        long[] begin = uncutTo(p, p.b());
        long beginWay = p.b() == 0 ? 0 : uncutTo(p, p.b() + 1)[2];
        long[] at = uncutTo(p, p.b() + n);
        long[] seen = turned(at[0] - begin[0], at[1] - begin[1], -(int) beginWay);
        return new long[] {seen[0], seen[1], Math.floorMod(at[2] - beginWay, 4)};
    }

    static long[] leftFar(Piece p, long n) {
        long before = n - 1;
        long turns = before / 4;
        for (int level = 0; level < 2 && level < p.word.length; level++) {
            long odd = ((before >> level) + 1) / 2;
            turns += odd % 2 == 0 ? 0 : p.effective(level) == 1 ? 1 : -1;
        }
        long[] seen = {0, 0, Math.floorMod(turns, 4)};
        if (n <= 100000) {
            int[][] places = p.places((int) n);
            seen[0] = places[(int) n][0];
            seen[1] = places[(int) n][1];
        }
        return seen;
    }

    // ---- the state

    final List<Piece> strips = new ArrayList<>();
    List<Piece> kept = null;
    final long[][] rows = new long[8][];
    final int[] sorts = new int[8];
    final int[] shown = new int[8];
    final int[] refused = new int[18];
    final List<Integer> bodies = new ArrayList<>();
    int lastFault = NONE;

    Model() {
        Arrays.fill(shown, NONE);
    }

    int no(int refusal) {
        refused[-refusal]++;
        return refusal;
    }

    int tens(int refusal) {
        return no(refusal) - 10;
    }

    boolean noShelf(int s) {
        return s < 0 || s > 7;
    }

    boolean noStrip(int i) {
        return i < 0 || i >= strips.size();
    }

    boolean isEmpty(int s) {
        return rows[s] == null && shown[s] == NONE;
    }

    /** -1, -2, -3 of a shelf where a row is wanted, 0 if it is one. */
    int rowWanted(int s) {
        return noShelf(s) ? -1 : shown[s] != NONE ? -2 : rows[s] == null ? -3 : 0;
    }

    int told(int s, int n) {
        int refusal = rowWanted(s);
        return refusal != 0 ? refusal : n < 0 ? -4 : n > rows[s].length ? -5 : 0;
    }

    int row(int s, int sort, int n) {
        if (noShelf(s)) return no(-1);
        if (n < 0) return no(-4);
        if (sort < 0 || sort > 3) return no(-6);
        if (n > 160) return no(-7);
        rows[s] = new long[n];
        sorts[s] = sort;
        shown[s] = NONE;
        return 1;
    }

    int set(int s, int i, long v) {
        int refusal = rowWanted(s);
        if (refusal != 0) return no(refusal);
        if (i < 0 || i >= rows[s].length) return no(-5);
        int bits = 8 << sorts[s];
        rows[s][i] = v << 64 - bits >> 64 - bits;
        return 1;
    }

    int copy(int p, int q, int i, int j, int n) {
        if (noShelf(p) || noShelf(q)) return no(-1);
        if (shown[p] != NONE || shown[q] != NONE) return no(-2);
        if (rows[p] != null && rows[q] != null && sorts[p] != sorts[q]) return no(-2);
        if (rows[p] == null || rows[q] == null) return no(-3);
        if (n < 0) return no(-4);
        if (i < 0 || j < 0) return no(-5);
        if ((long) i + n > rows[p].length || (long) j + n > rows[q].length) return no(-5);
        long[] ahead = rows[p].clone();
        for (int k = 0; k < n; k++) rows[q][j + k] = ahead[i + k];
        return 1;
    }

    long element(int s, int i) {
        if (noShelf(s) || rows[s] == null || i < 0 || i >= rows[s].length) return 0;
        return rows[s][i];
    }

    int asInt(int s, int i) {
        return (int) element(s, i);
    }

    int show(int s, int strip) {
        if (noShelf(s) || strip != NONE && noStrip(strip)) return no(-1);
        rows[s] = null;
        shown[s] = strip;
        return strip == NONE ? 0 : 1;
    }

    int holds(int s) {
        if (noShelf(s) || isEmpty(s)) return NONE;
        return shown[s] != NONE ? shown[s] : 100 + sorts[s];
    }

    static boolean under(int kind, int wanted) {
        return wanted == 0 || kind == wanted || kind == 4 && wanted == 3 || kind == 6 && wanted == 5;
    }

    int says(int s, int kind) {
        if (noShelf(s) || kind < 0 || kind > 6) return no(-1);
        if (rows[s] != null) return no(-2);
        if (shown[s] == NONE) return no(-3);
        Piece p = strips.get(shown[s]);
        if (!under(p.kind, kind)) return no(-2);
        switch (kind) {
            case 0: return p.word.length;
            case 1: return p.a % 2;
            case 2: return (int) (p.creases() % 1000);
            case 3:
            case 4: return (int) (p.b() % 1000);
            default: return p.crease(1);
        }
    }

    int strip(int kind, int a, int s, int n) {
        if (noShelf(s) || kind < 0 || kind > 6) return no(-1);
        int refusal = told(s, n);
        if (refusal != 0) return no(refusal);
        if (n < 1 || n > (kind == 2 ? 25 : 40) || a < 0 || a > 999999) return no(-6);
        if (strips.size() == 8) return no(-7);
        int[] word = new int[n];
        for (int i = 0; i < n; i++) word[i] = (int) (rows[s][i] & 1);
        strips.add(new Piece(kind, a, word));
        return strips.size() - 1;
    }

    int stripOf(int strip, int what) {
        if (noStrip(strip)) return no(-5);
        Piece p = strips.get(strip);
        if (what == 0) return p.kind;
        if (what == 1) return p.a;
        if (what == 2) return p.word.length;
        if (what < 10 || what >= 10 + p.word.length) return no(-5);
        return p.word[what - 10];
    }

    int turn(int strip, int level) {
        if (noStrip(strip)) return no(-1);
        Piece p = strips.get(strip);
        if (level < 0 || level >= p.word.length) return no(-5);
        strips.set(strip, p.withLetter(level, 1 - p.word[level]));
        return p.word[level];
    }

    int read(int s) {
        int refusal = rowWanted(s);
        if (refusal != 0) return no(refusal);
        StringBuilder text = new StringBuilder();
        for (int i = 0; i < rows[s].length; i++) {
            int sign = asInt(s, i);
            text.append(sign >= 0 && sign < 128 ? (char) sign : '?');
        }
        ModelReader reader = new ModelReader(text.toString(), strips);
        int items = reader.items();
        lastFault = reader.fault;
        if (lastFault != NONE) return no(-6);
        strips.clear();
        strips.addAll(reader.draft);
        return items;
    }

    int fault() {
        return lastFault;
    }

    long creases(int strip) {
        return noStrip(strip) ? no(-1) : strips.get(strip).creases();
    }

    int crease(int strip, long n) {
        if (noStrip(strip)) return no(-1);
        Piece p = strips.get(strip);
        return n < 1 || n > p.creases() ? no(-5) : p.crease(n);
    }

    int way(int strip, long n) {
        if (noStrip(strip)) return no(-1);
        Piece p = strips.get(strip);
        return n < 1 || n > p.creases() + 1 ? no(-5) : (int) far(p, n)[2];
    }

    long place(int strip, long n, int what) {
        long base = -2000000000000000L;
        if (noStrip(strip)) return base + no(-1);
        Piece p = strips.get(strip);
        if (n < 0 || n > p.creases() + 1 || what < 0 || what > 1) return base + no(-5);
        if (p.kind == 6 && n > 100000) return base + no(-7);
        return far(p, n)[what];
    }

    // ---- what comes of it

    int walked(int strip, int n, int most) {
        if (noStrip(strip)) return -1;
        if (n > strips.get(strip).creases() + 1) return -5;
        return n < 0 || n > most ? -6 : 0;
    }

    int passed(int strip, int n, int x, int y) {
        int refusal = walked(strip, n, 4000);
        if (refusal != 0) return no(refusal);
        int count = 0;
        for (int[] place : strips.get(strip).places(n)) {
            if (place[0] == x && place[1] == y) count++;
        }
        return count;
    }

    Map<List<Integer>, Integer> visits(int strip, int n) {
        Map<List<Integer>, Integer> visits = new HashMap<>();
        for (int[] place : strips.get(strip).places(n)) {
            visits.merge(List.of(place[0], place[1]), 1, Integer::sum);
        }
        return visits;
    }

    int most(int strip, int n) {
        int refusal = walked(strip, n, 4000);
        if (refusal != 0) return no(refusal);
        return visits(strip, n).values().stream().max(Integer::compare).get();
    }

    int cover(int strip, int n) {
        int refusal = walked(strip, n, 4000);
        return refusal != 0 ? no(refusal) : visits(strip, n).size();
    }

    static List<Integer> side(int x, int y, int u, int v) {
        return List.of(Math.min(x, u), Math.min(y, v), Math.max(x, u), Math.max(y, v));
    }

    int twice(int strip, int n) {
        int refusal = walked(strip, n, 4000);
        if (refusal != 0) return no(refusal);
        int[][] at = strips.get(strip).places(n);
        Set<List<Integer>> gone = new HashSet<>();
        int again = 0;
        for (int i = 1; i <= n; i++) {
            if (!gone.add(side(at[i - 1][0], at[i - 1][1], at[i][0], at[i][1]))) again++;
        }
        return again;
    }

    int when(int strip, int x, int y, int i) {
        if (noStrip(strip)) return tens(-1);
        if (i < 0) return tens(-5);
        int ahead = 0;
        int time = 0;
        Piece p = strips.get(strip);
        for (int[] place : p.places((int) Math.min(4000, p.creases() + 1))) {
            if (place[0] == x && place[1] == y && ahead++ == i) return time;
            time++;
        }
        return NONE;
    }

    int near(int strip, int other, int n, int dx, int dy, int what) {
        if (noStrip(strip) || noStrip(other)) return no(-1);
        if (n > strips.get(strip).creases() + 1 || n > strips.get(other).creases() + 1) return no(-5);
        if (what != 0 && what != 1) return no(-5);
        if (n < 0 || n > 4000 || dx < -100 || dx > 100 || dy < -100 || dy > 100) return no(-6);
        int[][] p = strips.get(strip).places(n);
        int[][] q = strips.get(other).places(n);
        int least = Integer.MAX_VALUE;
        int first = 0;
        for (int i = 0; i <= n; i++) {
            int u = q[i][0] + dx - p[i][0];
            int v = q[i][1] + dy - p[i][1];
            if (u * u + v * v < least) {
                least = u * u + v * v;
                first = i;
            }
        }
        return what == 0 ? least : first;
    }

    int four(int strip, int n) {
        int refusal = walked(strip, n, 1000);
        if (refusal != 0) return no(refusal);
        Map<List<Integer>, Integer> gone = new HashMap<>();
        int[][] at = strips.get(strip).places(n);
        for (int quarter = 0; quarter < 4; quarter++) {
            for (int i = 1; i <= n; i++) {
                long[] from = turned(at[i - 1][0], at[i - 1][1], quarter);
                long[] to = turned(at[i][0], at[i][1], quarter);
                gone.merge(side((int) from[0], (int) from[1], (int) to[0], (int) to[1]), 1, Integer::sum);
            }
        }
        int reach = 0;
        while (reach < 30 && allOnce(gone, reach + 1)) reach++;
        return reach;
    }

    static boolean allOnce(Map<List<Integer>, Integer> gone, int reach) {
        for (int x = -reach; x <= reach; x++) {
            for (int y = -reach; y <= reach; y++) {
                if (x < reach && gone.getOrDefault(side(x, y, x + 1, y), 0) != 1) return false;
                if (y < reach && gone.getOrDefault(side(x, y, x, y + 1), 0) != 1) return false;
            }
        }
        return true;
    }

    // ---- told creases

    int told63(int s, int n) {
        int refusal = told(s, n);
        return refusal != 0 ? refusal : n > 63 ? -6 : 0;
    }

    static int levels(int n) {
        int levels = 0;
        while (1L << levels <= n) levels++;
        return levels;
    }

    /** How many of the seen CREASES 1 to n are otherwise by this word (LEVEL 0 its highest bit). */
    int unlike(int s, int n, int levels, int word) {
        int[] letters = new int[Math.max(levels, 1)];
        for (int level = 0; level < levels; level++) letters[level] = word >> levels - 1 - level & 1;
        Piece p = new Piece(0, 0, letters);
        int unlike = 0;
        for (int i = 1; i <= n; i++) {
            int seen = asInt(s, i - 1);
            if ((seen == 0 || seen == 1) && p.crease(i) != seen) unlike++;
        }
        return unlike;
    }

    List<Integer> fitting(int s, int n) {
        List<Integer> fitting = new ArrayList<>();
        int levels = levels(n);
        for (int word = 0; word < 1 << levels; word++) {
            if (unlike(s, n, levels, word) == 0) fitting.add(word);
        }
        return fitting;
    }

    int words(int s, int n, int what) {
        int refusal = told63(s, n);
        if (refusal != 0) return tens(refusal);
        List<Integer> fitting = fitting(s, n);
        if (what == NONE) return levels(fitting.size()) - 1;
        if (what < 0 || what >= levels(n) || fitting.isEmpty()) return tens(-5);
        return fitting.get(0) >> levels(n) - 1 - what & 1;
    }

    int wrong(int s, int n) {
        int refusal = told63(s, n);
        if (refusal != 0) return tens(refusal);
        for (int i = 1; i <= n; i++) {
            if (fitting(s, i).isEmpty()) return i;
        }
        return NONE;
    }

    int mend(int s, int n) {
        int refusal = told63(s, n);
        if (refusal != 0) return no(refusal);
        int least = n;
        for (int word = 0; word < 1 << levels(n); word++) {
            least = Math.min(least, unlike(s, n, levels(n), word));
        }
        return least;
    }

    int judge(int strip, int s, int n) {
        if (noStrip(strip) || noShelf(s)) return tens(-1);
        int refusal = told(s, n);
        if (refusal != 0) return tens(refusal);
        Piece p = strips.get(strip);
        if (n > p.creases()) return tens(-5);
        if (n > 63) return tens(-6);
        for (int i = 1; i <= n; i++) {
            int seen = asInt(s, i - 1);
            if ((seen == 0 || seen == 1) && p.crease(i) != seen) return i;
        }
        return NONE;
    }

    int ends(int f, int x, int y, int what) {
        if (what != 0 && what != 1) return no(-5);
        if (f < 1 || f > 10) return no(-6);
        int count = 0;
        int first = NONE;
        for (int word = 0; word < 1 << f; word++) {
            int[] letters = new int[f];
            for (int level = 0; level < f; level++) letters[level] = word >> level & 1;
            int[] last = new Piece(0, 0, letters).places(1 << f)[1 << f];
            if (last[0] == x && last[1] == y) {
                if (count == 0) first = word;
                count++;
            }
        }
        return what == 0 ? count : count == 0 ? no(-5) : first;
    }

    int piece(int strip, int s, int n, int what) {
        if (noStrip(strip) || noShelf(s)) return no(-1);
        int refusal = told(s, n);
        if (refusal != 0) return no(refusal);
        if (what != 0 && what != 1) return no(-5);
        if (n < 1 || n > 40) return no(-6);
        Piece p = strips.get(strip);
        int count = 0;
        int first = NONE;
        for (int from = 1; from + n - 1 <= Math.min(4000, p.creases()); from++) {
            boolean all = true;
            for (int i = 0; i < n && all; i++) {
                int seen = asInt(s, i);
                all = seen != 0 && seen != 1 || p.crease(from + i) == seen;
            }
            if (all && count++ == 0) first = from;
        }
        return what == 0 ? count : count == 0 ? no(-5) : first;
    }

    // ---- leaves

    static boolean cross(int[] placeOf, int i, int j) {
        int low = Math.min(placeOf[i], placeOf[i + 1]);
        int high = Math.max(placeOf[i], placeOf[i + 1]);
        boolean one = placeOf[j] > low && placeOf[j] < high;
        boolean two = placeOf[j + 1] > low && placeOf[j + 1] < high;
        return one != two;
    }

    static boolean canBe(int[] order) {
        int[] placeOf = new int[order.length];
        for (int i = 0; i < order.length; i++) placeOf[order[i]] = i;
        for (int i = 0; i + 1 < order.length; i++) {
            for (int j = i + 2; j + 1 < order.length; j += 2) {
                if (cross(placeOf, i, j) || cross(placeOf, j, i)) return false;
            }
        }
        return true;
    }

    private static final Map<Integer, List<int[]>> ORDERS = new HashMap<>();

    static List<int[]> allOrders(int n) {
        if (!ORDERS.containsKey(n)) {
            List<int[]> all = new ArrayList<>();
            permute(new int[n], 0, 0, all);
            ORDERS.put(n, all);
        }
        return ORDERS.get(n);
    }

    private static void permute(int[] order, int at, int used, List<int[]> all) {
        if (at == order.length) {
            if (canBe(order)) all.add(order.clone());
            return;
        }
        for (int leaf = 0; leaf < order.length; leaf++) {
            if ((used >> leaf & 1) == 0) {
                order[at] = leaf;
                permute(order, at + 1, used | 1 << leaf, all);
            }
        }
    }

    int can(int s, int n) {
        int refusal = told(s, n);
        if (refusal != 0) return no(refusal);
        if (n < 1 || n > 8) return no(-6);
        int[] order = new int[n];
        boolean[] used = new boolean[n];
        for (int i = 0; i < n; i++) {
            order[i] = asInt(s, i);
            if (order[i] < 0 || order[i] >= n || used[order[i]]) return no(-6);
            used[order[i]] = true;
        }
        return canBe(order) ? 1 : 0;
    }

    int orders(int n) {
        return n < 1 || n > 8 ? no(-6) : allOrders(n).size();
    }

    int order(int n, int i, int place) {
        if (i < 0 || place < 0) return no(-5);
        if (n < 1 || n > 8) return no(-6);
        if (place >= n || i >= allOrders(n).size()) return no(-5);
        return allOrders(n).get(i)[place];
    }

    int page(int f, int place) {
        if (place < 0) return no(-5);
        if (f < 1 || f > 6) return no(-6);
        if (place >= 1 << f) return no(-5);
        List<List<Integer>> piles = new ArrayList<>();
        for (int leaf = 0; leaf < 1 << f; leaf++) piles.add(List.of(leaf));
        while (piles.size() > 1) {
            List<List<Integer>> folded = new ArrayList<>();
            for (int i = 0; i < piles.size() / 2; i++) {
                List<Integer> pile = new ArrayList<>();
                List<Integer> right = piles.get(piles.size() - 1 - i);
                for (int k = right.size() - 1; k >= 0; k--) pile.add(right.get(k));
                pile.addAll(piles.get(i));
                folded.add(pile);
            }
            piles = folded;
        }
        return piles.get(0).get(place);
    }

    // ---- going back, acts

    void hideLost() {
        for (int s = 0; s < 8; s++) {
            if (shown[s] >= strips.size()) shown[s] = NONE;
        }
    }

    int drop() {
        if (strips.isEmpty()) return no(-6);
        strips.remove(strips.size() - 1);
        hideLost();
        return strips.size();
    }

    int image() {
        kept = new ArrayList<>(strips);
        return kept.size();
    }

    int restore() {
        if (kept == null) return no(-6);
        strips.clear();
        strips.addAll(kept);
        hideLost();
        return strips.size();
    }

    // The kinds that have a body, by act, for each kind from it upward.
    static final int[] ABOVE = {-1, 0, 0, 0, 3, 0, 5};
    static final int[][] HAS = {{0, 1, 4, 6}, {0, 2, 3, 6}, {0, 4, 5}};

    int run(Piece p, int m, int act, int from, int x) {
        int kind = from;
        while (!has(act, kind)) kind = ABOVE[kind];
        int above = ABOVE[kind];
        int k = p.a;
        switch (act * 10 + kind) {
            case 0: bodies.add(10); return x + m;
            case 10: bodies.add(11); return run(p, m, 0, p.kind, x) * 2;
            case 20: {
                bodies.add(12);
                int opens = run(p, m, 1, p.kind, x);
                return opens ^ run(p, m, 0, p.kind, x - k);
            }
            case 1: bodies.add(20); return run(p, m, 0, above, x) + k;
            case 12: bodies.add(30); return run(p, m, 1, above, x) * 3;
            case 13: bodies.add(40); return run(p, m, 1, above, x + 1);
            case 24: bodies.add(50); return -run(p, m, 2, above, x);
            case 4: bodies.add(51); return run(p, m, 0, above, x) - m;
            case 25: bodies.add(60); return run(p, m, 2, above, x) ^ 5;
            case 6: bodies.add(70); return run(p, m, 0, above, x) * 2;
            case 16: bodies.add(71); return run(p, m, 1, above, x - k);
            default: throw new IllegalStateException();
        }
    }

    static boolean has(int act, int kind) {
        for (int one : HAS[act]) {
            if (one == kind) return true;
        }
        return false;
    }

    int act(int strip, int act, int x) {
        bodies.clear();
        if (noStrip(strip) || act < 0 || act > 2) return 0;
        return run(strips.get(strip), strip, act, strips.get(strip).kind, x);
    }

    int trace(int i) {
        return i < 0 || i >= bodies.size() || i >= 20 ? NONE : bodies.get(i);
    }

    int status(int what) {
        int folds = 0;
        int ones = 0;
        for (Piece p : strips) {
            folds += p.word.length;
            for (int letter : p.word) ones += letter;
        }
        switch (what) {
            case 0: return strips.size();
            case 1: return folds;
            case 2: return ones;
            case 3: return bodies.size();
            default: return what >= 11 && what <= 17 ? refused[what - 10] : NONE;
        }
    }
}
