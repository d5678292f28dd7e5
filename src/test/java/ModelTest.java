import java.util.Random;

/** Long runs of calls, told by a fixed seed, of the class and of the model side by side. */
public final class ModelTest {
    private static final int[] EDGES = {
        Integer.MIN_VALUE, -101, -100, -2, -1, 0, 1, 2, 3, 6, 7, 8, 9, 10, 25, 26, 40, 41, 63, 64,
        100, 101, 159, 160, 161, 1000, 1001, 4000, 4001, 99999, 100000, 999999, 1000000,
        Integer.MAX_VALUE};
    private static final String SIGNS = "striplesun 0123456789;lr";

    private static Random random;
    private static FoldedInHalf x;
    private static Model y;
    private static String told;

    public static void main(String[] args) {
        random = new Random(20261118);
        for (int run = 0; run < 1200; run++) {
            x = new FoldedInHalf();
            y = new Model();
            int calls = 60 + random.nextInt(452);
            boolean wild = run % 4 == 0;
            for (int call = 0; call < calls; call++) {
                one(wild);
            }
            whole(run);
        }
        Check.report();
    }

    /** All that can be asked of the state agrees behind each run. */
    private static void whole(int run) {
        told = "behind run " + run + ": ";
        for (int what = -1; what < 19; what++) {
            Check.due(told + "status(" + what + ")", x.status(what), y.status(what));
        }
        for (int s = 0; s < 8; s++) {
            Check.due(told + "holds(" + s + ")", x.holds(s), y.holds(s));
            for (int i = -1; i <= 160; i++) {
                Check.due(told + "element(" + s + ", " + i + ")", x.element(s, i), y.element(s, i));
            }
            for (int what = 0; what < 51; what++) {
                Check.due(told + "stripOf(" + s + ", " + what + ")", x.stripOf(s, what), y.stripOf(s, what));
            }
        }
    }

    private static int below(int bound) {
        return random.nextInt(bound);
    }

    private static int edge() {
        return EDGES[below(EDGES.length)];
    }

    private static int mostly(boolean wild, int plain) {
        return wild && below(6) == 0 || below(40) == 0 ? edge() : plain;
    }

    private static int shelf(boolean wild) {
        return mostly(wild, below(5) == 0 ? below(8) : below(3));
    }

    private static int number(boolean wild) {
        return mostly(wild, below(Math.max(1, y.strips.size())));
    }

    private static int size(boolean wild) {
        int plain = below(3) == 0 ? below(64) : below(10);
        return mostly(wild, plain);
    }

    private static int sides(boolean wild, int strip, int most) {
        long there = y.noStrip(strip) ? 10 : y.strips.get(strip).creases() + 1;
        int bound = (int) Math.min(below(4) == 0 ? most : 200, there) + 1;
        return mostly(wild, below(bound));
    }

    private static long far(boolean wild, int strip) {
        long there = y.noStrip(strip) ? 10 : y.strips.get(strip).creases() + 2;
        switch (below(6)) {
            case 0: return there - below(4);
            case 1: return Math.min(there, below(40)) - 1;
            case 2: return mostly(wild, below(100002));
            case 3: return wild ? random.nextLong() : below(10);
            default: return Math.floorMod(random.nextLong(), Math.max(1, there));
        }
    }

    private static void due(String call, long got, long want) {
        Check.due(told + call, got, want);
    }

    private static void one(boolean wild) {
        told = "";
        int group = below(10);
        if (group < 3) {
            rows(wild);
        } else if (group < 5) {
            strips(wild);
        } else if (group < 7) {
            walks(wild);
        } else if (group < 9) {
            toldOnes(wild);
        } else {
            rest(wild);
        }
    }

    private static void fill(int s, boolean wild) {
        int n = size(wild);
        int sort = mostly(wild, below(4));
        due("row", x.row(s, sort, n), y.row(s, sort, n));
        int kind = below(4);
        for (int i = 0; i < n && i < 160; i++) {
            long v = kind == 0 ? below(2) : kind == 1 ? below(3) : kind == 2 ? i : random.nextLong() >> below(64);
            if (kind == 0 && sort == 3 && below(9) == 0) {
                v += (long) below(100) << 32;
            }
            due("set", x.set(s, i, v), y.set(s, i, v));
        }
        if (kind == 2) {
            shuffle(s, n);
        }
        if (kind < 2 && below(2) == 0 && y.strips.size() > 0 && below(2) == 0) {
            asCreases(s, n);
        }
    }

    /** An order of leaves. */
    private static void shuffle(int s, int n) {
        for (int i = 0; i < n && i < 8; i++) {
            int j = below(Math.min(n, 8));
            long v = y.element(s, i);
            long w = y.element(s, j);
            due("set", x.set(s, i, w), y.set(s, i, w));
            due("set", x.set(s, j, v), y.set(s, j, v));
        }
    }

    /** Creases of a strip that is there, now and then one turned. */
    private static void asCreases(int s, int n) {
        Model.Piece p = y.strips.get(below(y.strips.size()));
        long from = below(3) == 0 ? below(50) : 0;
        for (int i = 0; i < n && i < 160 && from + i + 1 <= p.creases(); i++) {
            long v = below(30) == 0 ? 2 : p.crease(from + i + 1) ^ (below(50) == 0 ? 1 : 0);
            due("set", x.set(s, i, v), y.set(s, i, v));
        }
    }

    private static void rows(boolean wild) {
        int s = shelf(wild);
        int t = shelf(wild);
        switch (below(8)) {
            case 0: fill(s, wild); break;
            case 1: {
                int i = size(wild);
                long v = random.nextLong() >> below(64);
                due("set", x.set(s, i, v), y.set(s, i, v));
                break;
            }
            case 2: {
                int i = size(wild);
                int j = size(wild);
                int n = size(wild);
                due("copy", x.copy(s, t, i, j, n), y.copy(s, t, i, j, n));
                break;
            }
            case 3: {
                int strip = below(3) == 0 ? -1 : number(wild);
                due("show", x.show(s, strip), y.show(s, strip));
                break;
            }
            case 4: due("holds", x.holds(s), y.holds(s)); break;
            case 5: {
                if (y.strips.size() > 0) {
                    int strip = number(wild);
                    due("show", x.show(s, strip), y.show(s, strip));
                }
                int kind = mostly(wild, below(7));
                due("says " + kind, x.says(s, kind), y.says(s, kind));
                break;
            }
            case 6: text(s); break;
            default: {
                int i = size(wild);
                due("element", x.element(s, i), y.element(s, i));
            }
        }
    }

    private static String item() {
        int n = below(Math.max(1, y.strips.size() + 1));
        switch (below(3)) {
            case 0: {
                StringBuilder item = new StringBuilder("strip ");
                item.append(below(12) == 0 ? below(30) : below(7)).append(' ');
                item.append(below(12) == 0 ? below(10000000) : below(1000)).append(' ');
                int letters = below(8) == 0 ? 20 + below(25) : 1 + below(5);
                for (int i = 0; i < letters; i++) {
                    item.append(below(2) == 0 ? 'l' : 'r');
                }
                return item.toString();
            }
            case 1: return "turn " + n + " " + below(4);
            default: return "less " + n;
        }
    }

    private static void text(int s) {
        StringBuilder text = new StringBuilder(item());
        for (int i = below(5); i > 0 && text.length() < 110; i--) {
            text.append(';').append(item());
        }
        if (below(2) == 0) {
            int at = below(text.length());
            switch (below(3)) {
                case 0: text.setCharAt(at, SIGNS.charAt(below(SIGNS.length()))); break;
                case 1: text.deleteCharAt(at); break;
                default: text.insert(at, SIGNS.charAt(below(SIGNS.length())));
            }
        }
        text.setLength(Math.min(text.length(), 160));
        if (below(6) == 0) {
            text.setLength(below(text.length() + 1));
        }
        int sort = below(4);
        due("row", x.row(s, sort, text.length()), y.row(s, sort, text.length()));
        for (int i = 0; i < text.length(); i++) {
            due("set", x.set(s, i, text.charAt(i)), y.set(s, i, text.charAt(i)));
        }
        told = text + ": ";
        due("read", x.read(s), y.read(s));
        due("fault", x.fault(), y.fault());
        due("status 2", x.status(2), y.status(2));
        while (y.strips.size() > 6 && below(3) > 0) {
            due("drop", x.drop(), y.drop());
        }
    }

    private static void strips(boolean wild) {
        int strip = number(wild);
        int s = shelf(wild);
        switch (below(8)) {
            case 0:
            case 1: {
                int t = below(3);
                fill(t, wild);
                int n = below(2) == 0 || y.rows[t] == null ? size(wild) : y.rows[t].length;
                int kind = mostly(wild, below(7));
                int a = mostly(wild, below(2) == 0 ? below(1000000) : below(40));
                due("strip", x.strip(kind, a, t, n), y.strip(kind, a, t, n));
                break;
            }
            case 2: {
                int what = below(2) == 0 ? below(12) - 1 : 10 + size(wild);
                due("stripOf " + what, x.stripOf(strip, what), y.stripOf(strip, what));
                break;
            }
            case 3: {
                int level = mostly(wild, below(8));
                due("turn", x.turn(strip, level), y.turn(strip, level));
                break;
            }
            case 4: due("read", x.read(s), y.read(s)); due("fault", x.fault(), y.fault()); break;
            case 5: due("drop", x.drop(), y.drop()); break;
            case 6: due("creases", x.creases(strip), y.creases(strip)); break;
            default: {
                long n = far(wild, strip);
                told = "kind " + y.stripOf(strip, 0) + " n " + n + " " + x.stripOf(strip, 0) + ": ";
                due("crease", x.crease(strip, n), y.crease(strip, n));
                due("way", x.way(strip, n), y.way(strip, n));
                int what = mostly(wild, below(2));
                due("place " + what, x.place(strip, n, what), y.place(strip, n, what));
            }
        }
    }

    private static void walks(boolean wild) {
        int strip = number(wild);
        int n = sides(wild, strip, 4000);
        int u = mostly(wild, below(9) - 4);
        int v = mostly(wild, below(9) - 4);
        told = "kind " + y.stripOf(strip, 0) + " a kind " + x.stripOf(strip, 0) + " n " + n + ": ";
        switch (below(7)) {
            case 0: due("passed", x.passed(strip, n, u, v), y.passed(strip, n, u, v)); break;
            case 1: due("most", x.most(strip, n), y.most(strip, n)); break;
            case 2: due("twice", x.twice(strip, n), y.twice(strip, n)); break;
            case 3: due("cover", x.cover(strip, n), y.cover(strip, n)); break;
            case 4: {
                int i = mostly(wild, below(3));
                due("when", x.when(strip, u, v, i), y.when(strip, u, v, i));
                break;
            }
            case 5: {
                int other = number(wild);
                int dx = mostly(wild, below(201) - 100);
                int dy = mostly(wild, below(201) - 100);
                int what = mostly(wild, below(2));
                due("near", x.near(strip, other, n, dx, dy, what), y.near(strip, other, n, dx, dy, what));
                break;
            }
            default: {
                int m = sides(wild, strip, 1000);
                due("four", x.four(strip, m), y.four(strip, m));
            }
        }
    }

    private static void toldOnes(boolean wild) {
        int s = shelf(wild);
        if (below(3) == 0 && s >= 0 && s < 8) {
            fill(s, wild);
        }
        int n = y.noShelf(s) || y.rows[s] == null ? size(wild) : mostly(wild, below(y.rows[s].length + 1));
        int strip = number(wild);
        switch (below(6)) {
            case 0: {
                int what = mostly(wild, below(8) - 1);
                due("words " + n + " " + what, x.words(s, n, what), y.words(s, n, what));
                break;
            }
            case 1: due("wrong", x.wrong(s, n), y.wrong(s, n)); break;
            case 2: due("mend", x.mend(s, n), y.mend(s, n)); break;
            case 3: due("judge", x.judge(strip, s, n), y.judge(strip, s, n)); break;
            case 4: {
                int what = mostly(wild, below(2));
                int m = Math.min(n, 1 + below(45));
                due("piece", x.piece(strip, s, m, what), y.piece(strip, s, m, what));
                break;
            }
            default: {
                int m = Math.min(n, below(10));
                due("can", x.can(s, m), y.can(s, m));
            }
        }
    }

    private static void rest(boolean wild) {
        int strip = number(wild);
        switch (below(9)) {
            case 0: {
                int f = mostly(wild, 1 + below(10));
                int u = mostly(wild, below(33) - 16);
                int v = mostly(wild, below(33) - 16);
                int what = mostly(wild, below(2));
                due("ends", x.ends(f, u, v, what), y.ends(f, u, v, what));
                break;
            }
            case 1: {
                int n = mostly(wild, 1 + below(8));
                due("orders", x.orders(n), y.orders(n));
                break;
            }
            case 2: {
                int n = mostly(wild, 1 + below(8));
                int i = mostly(wild, below(1400));
                int place = mostly(wild, below(8));
                due("order", x.order(n, i, place), y.order(n, i, place));
                break;
            }
            case 3: {
                int f = mostly(wild, 1 + below(6));
                int place = mostly(wild, below(65));
                due("page", x.page(f, place), y.page(f, place));
                break;
            }
            case 4:
            case 5: {
                int act = mostly(wild, below(3));
                int v = below(3) == 0 ? random.nextInt() : below(100);
                due("act", x.act(strip, act, v), y.act(strip, act, v));
                for (int i = -1; i < 10; i++) {
                    due("trace", x.trace(i), y.trace(i));
                }
                break;
            }
            case 6: due("image", x.image(), y.image()); break;
            case 7: due("restore", x.restore(), y.restore()); break;
            default: {
                int what = mostly(wild, below(18));
                due("status " + what, x.status(what), y.status(what));
            }
        }
    }
}
