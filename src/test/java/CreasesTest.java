/** Promises 14 to 17: creases, ways and places, near and far. */
public final class CreasesTest {
    private static final long FAR = -2000000000000000L;
    private static FoldedInHalf x;

    public static void main(String[] args) {
        creases();
        crease();
        cutAndBack();
        wayAndPlace();
        refusals();
        farSteps();
        Check.report();
    }

    private static void counted(String what, int refusal, long want) {
        Check.due("refusals " + refusal + " behind " + what, x.status(10 - refusal), want);
    }

    private static String letters(int n) {
        return "lrrlrlllrlrrlrlllrlrrlrlllrlrrlrlllrlrrl".substring(0, n);
    }

    private static void bends(int strip, String word) {
        for (int n = 1; n <= word.length(); n++) {
            Check.due("crease " + n + " of " + strip, x.crease(strip, n), word.charAt(n - 1) == 'l' ? 1 : 0);
        }
        Check.due("creases of " + strip, x.creases(strip), word.length());
    }

    private static void creases() {
        x = new FoldedInHalf();
        Check.strip(x, 0, 0, letters(40));
        Check.strip(x, 2, 0, letters(25));
        Check.strip(x, 3, 999999, letters(40));
        Check.strip(x, 4, 7, "l");
        Check.strip(x, 3, 14, "lll");
        Check.strip(x, 3, 13, "lll");
        Check.due("creases of 40 folds", x.creases(0), (1L << 40) - 1);
        Check.due("creases of 25 thirds", x.creases(1), 847288609442L);
        Check.due("creases of a CUT", x.creases(2), (1L << 40) - 1 - 999999);
        Check.due("a modulo 1", x.creases(3), 1);
        Check.due("a modulo 7 is 0", x.creases(4), 7);
        Check.due("a modulo 7 is 6", x.creases(5), 1);
        Check.due("no strip", x.creases(6), -1);
        Check.due("no strip", x.creases(-1), -1);
        counted("creases", -1, 2);
    }

    private static void crease() {
        x = new FoldedInHalf();
        Check.strip(x, 0, 9, "lrl");
        Check.strip(x, 1, 9, "rrr");
        Check.strip(x, 1, 8, "lll");
        Check.strip(x, 2, 0, "lr");
        Check.strip(x, 5, 0, "lrl");
        Check.strip(x, 6, 0, "lrr");
        Check.strip(x, 0, 0, "r");
        bends(0, "lrrlllr");
        bends(1, "llrllrr");
        bends(2, "rrlrrll");
        bends(3, "lrrlrllr");
        bends(4, "rllrrrl");
        bends(5, "rlllrrl");
        bends(6, "r");
    }

    private static void cutAndBack() {
        x = new FoldedInHalf();
        Check.strip(x, 3, 2, "lrl");
        Check.strip(x, 3, 9, "lrl");
        Check.strip(x, 4, 2, "lrl");
        Check.strip(x, 4, 0, "lrl");
        Check.strip(x, 3, 7, "lrl");
        bends(0, "rlllr");
        bends(1, "rlllr");
        bends(2, "lrrrl");
        bends(3, "lrrrllr");
        bends(4, "lrrlllr");
    }

    private static void laid(int strip, int[] ways, int[][] places) {
        for (int n = 1; n <= ways.length; n++) {
            Check.due("way " + n + " of " + strip, x.way(strip, n), ways[n - 1]);
        }
        for (int n = 0; n < places.length; n++) {
            Check.due("x of place " + n + " of " + strip, x.place(strip, n, 0), places[n][0]);
            Check.due("y of place " + n + " of " + strip, x.place(strip, n, 1), places[n][1]);
        }
    }

    private static void wayAndPlace() {
        x = new FoldedInHalf();
        Check.strip(x, 0, 0, "lrl");
        Check.strip(x, 2, 0, "lr");
        Check.strip(x, 4, 2, "lrl");
        Check.strip(x, 6, 0, "llll");
        Check.strip(x, 3, 3, "lrl");
        laid(0, new int[] {0, 1, 0, 3, 0, 1, 2, 1},
            new int[][] {{0, 0}, {1, 0}, {1, 1}, {2, 1}, {2, 0}, {3, 0}, {3, 1}, {2, 1}, {2, 2}});
        laid(1, new int[] {0, 1, 0, 3, 0, 3, 0, 1, 0},
            new int[][] {{0, 0}, {1, 0}, {1, 1}, {2, 1}, {2, 0}, {3, 0}, {3, -1}, {4, -1}, {4, 0}, {5, 0}});
        laid(2, new int[] {0, 1, 0, 3, 2, 3},
            new int[][] {{0, 0}, {1, 0}, {1, 1}, {2, 1}, {2, 0}, {1, 0}, {1, -1}});
        // A LEFT turns round by half in 8 sides, so that 16 bring it back.
        for (int n = 0; n <= 16; n++) {
            long sign = n < 8 ? 1 : -1;
            Check.due("LEFT way", x.way(3, n % 16 + 1), (x.way(3, n % 8 + 1) + (n < 8 || n == 16 ? 0 : 2)) % 4);
            if (n >= 8) {
                Check.due("LEFT x", x.place(3, n, 0), x.place(3, 8, 0) + sign * x.place(3, n - 8, 0));
                Check.due("LEFT y", x.place(3, n, 1), x.place(3, 8, 1) + sign * x.place(3, n - 8, 1));
            }
        }
        laid(4, new int[] {0, 1, 2, 3, 2}, new int[][] {{0, 0}, {1, 0}, {1, 1}, {0, 1}, {0, 0}, {-1, 0}});
    }

    private static void refusals() {
        x = new FoldedInHalf();
        Check.strip(x, 0, 0, "lrl");
        Check.strip(x, 6, 0, letters(40));
        Check.strip(x, 5, 0, letters(40));
        Check.due("crease 0", x.crease(0, 0), -5);
        Check.due("crease 8", x.crease(0, 8), -5);
        Check.due("crease below", x.crease(0, Long.MIN_VALUE), -5);
        Check.due("crease far beyond", x.crease(0, (1L << 32) + 1), -5);
        Check.due("crease of none", x.crease(3, 0), -1);
        Check.due("way 0", x.way(0, 0), -5);
        Check.due("way 9", x.way(0, 9), -5);
        Check.due("way of none", x.way(-1, 0), -1);
        Check.due("place of none", x.place(3, -1, 9), FAR - 1);
        Check.due("place -1", x.place(0, -1, 0), FAR - 5);
        Check.due("place 9", x.place(0, 9, 0), FAR - 5);
        Check.due("place what 2", x.place(0, 0, 2), FAR - 5);
        Check.due("place what -1", x.place(0, 0, -1), FAR - 5);
        Check.due("LEFT 100000", x.place(1, 100000, 0), 0);
        Check.due("LEFT 100001", x.place(1, 100001, 1), FAR - 7);
        Check.due("LEFT far, another what", x.place(1, 100001, 2), FAR - 5);
        Check.due("LEFT beyond", x.place(1, (1L << 40) + 1, 0), FAR - 5);
        Check.due("GLASS 100001", x.place(2, 100001, 0), -141);
        counted("crease, way, place", -1, 3);
        counted("crease, way, place", -5, 12);
        counted("crease, way, place", -7, 1);
    }

    /** Far out each side leads from place to place, and each crease from way to way. */
    private static void farSteps() {
        x = new FoldedInHalf();
        for (int kind = 0; kind < 7; kind++) {
            Check.strip(x, kind, kind == 1 ? 1 : 654321, letters(kind == 2 ? 25 : 40));
        }
        for (int kind = 0; kind < 7; kind++) {
            long end = x.creases(kind) + 1;
            for (long begin = 1; begin < end - 60; begin = begin * 5 + 3) {
                steps(kind, begin, begin + 3);
            }
            steps(kind, end - 40, end);
            Check.due("way 1", x.way(kind, 1), 0);
            Check.due("place 0", x.place(kind, 0, 0), 0);
            Check.due("place 1", x.place(kind, 1, 0), 1);
        }
        // The whole of 2 m folds by one letter lies as far off as 2 to the power of m.
        x = new FoldedInHalf();
        Check.strip(x, 1, 1, letters(40));
        Check.due("SAME x", x.place(0, 1L << 40, 0), 1L << 20);
        Check.due("SAME y", x.place(0, 1L << 40, 1), 0);
    }

    private static void steps(int kind, long begin, long end) {
        for (long n = begin; n <= end; n++) {
            int way = x.way(kind, n);
            if (kind != 6 || n <= 100000) {
                long across = x.place(kind, n, 0) - x.place(kind, n - 1, 0);
                long up = x.place(kind, n, 1) - x.place(kind, n - 1, 1);
                Check.due("side " + n + " of " + kind + " across", across, way == 0 ? 1 : way == 2 ? -1 : 0);
                Check.due("side " + n + " of " + kind + " up", up, way == 1 ? 1 : way == 3 ? -1 : 0);
            }
            if (n < x.creases(kind) + 1) {
                int turned = x.way(kind, n + 1) - way & 3;
                Check.due("crease " + n + " of " + kind, turned == 1 ? 1 : turned == 3 ? 0 : 9, x.crease(kind, n));
            }
        }
    }
}
