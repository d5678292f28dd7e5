/** Promises 2 to 8: rows, shelves, what they hold and say. */
public final class RowsTest {
    private static FoldedInHalf x;

    public static void main(String[] args) {
        row();
        set();
        copy();
        element();
        show();
        holds();
        says();
        Check.report();
    }

    private static void counted(String what, int refusal, long want) {
        Check.due("refusals " + refusal + " behind " + what, x.status(10 - refusal), want);
    }

    private static void row() {
        x = new FoldedInHalf();
        Check.due("row", x.row(0, 0, 0), 1);
        Check.due("row of 160", x.row(7, 3, 160), 1);
        Check.due("row: its last element", x.set(7, 159, 5), 1);
        Check.due("row: behind its last", x.set(7, 160, 5), -5);
        Check.due("row again", x.row(7, 2, 160), 1);
        Check.due("a new row holds 0", x.element(7, 159), 0);
        Check.due("row shelf -1", x.row(-1, 0, 1), -1);
        Check.due("row shelf 8", x.row(8, -1, -1), -1);
        Check.due("row size first", x.row(0, 9, -1), -4);
        Check.due("row sort ahead of room", x.row(0, 4, 161), -6);
        Check.due("row sort -1", x.row(0, -1, 1), -6);
        Check.due("row room", x.row(0, 0, 161), -7);
        Check.due("a refused row leaves the old one", x.holds(7), 102);
        counted("row", -1, 2);
        counted("row", -4, 1);
        counted("row", -5, 1);
        counted("row", -6, 2);
        counted("row", -7, 1);
        Check.strip(x, 0, 0, "l");
        x.show(7, 0);
        Check.due("row in the place of a strip", x.row(7, 1, 3), 1);
        Check.due("row in the place of a strip", x.holds(7), 101);
    }

    private static void set() {
        x = new FoldedInHalf();
        long[] kept = {(byte) 0x1FF, (short) 0x1FFFF, -1, 0x1FFFFFFFFL};
        long[] put = {0x1FF, 0x1FFFF, 0x1FFFFFFFFL, 0x1FFFFFFFFL};
        for (int sort = 0; sort < 4; sort++) {
            x.row(sort, sort, 2);
            Check.due("set sort " + sort, x.set(sort, 1, put[sort]), 1);
            Check.due("set sort " + sort + " keeps", x.element(sort, 1), kept[sort]);
        }
        x.set(0, 0, 128);
        Check.due("a byte has a sign", x.element(0, 0), -128);
        Check.strip(x, 0, 0, "l");
        x.show(4, 0);
        Check.due("set no shelf", x.set(8, -1, 0), -1);
        Check.due("set no shelf", x.set(-1, 0, 0), -1);
        Check.due("set of a strip", x.set(4, -1, 0), -2);
        Check.due("set of nothing", x.set(5, -1, 0), -3);
        Check.due("set below", x.set(0, -1, 0), -5);
        Check.due("set beyond", x.set(0, 2, 0), -5);
        counted("set", -1, 2);
        counted("set", -2, 1);
        counted("set", -3, 1);
        counted("set", -5, 2);
    }

    private static void copy() {
        x = new FoldedInHalf();
        Check.row(x, 0, 1, 2, 3, 4, 5);
        Check.row(x, 1, 9, 9, 9);
        Check.due("copy", x.copy(0, 1, 1, 0, 2), 1);
        due(1, 2, 3, 9);
        Check.due("copy to itself, on", x.copy(0, 0, 0, 1, 4), 1);
        due(0, 1, 1, 2, 3, 4);
        Check.due("copy to itself, back", x.copy(0, 0, 2, 0, 3), 1);
        due(0, 2, 3, 4, 3, 4);
        Check.due("copy of none at the end", x.copy(0, 1, 5, 3, 0), 1);
        Check.due("copy of all", x.copy(1, 0, 0, 2, 3), 1);
        due(0, 2, 3, 2, 3, 9);
        x.row(2, 0, 4);
        Check.strip(x, 0, 0, "l");
        x.show(3, 0);
        Check.due("copy no shelf", x.copy(-1, 3, 0, 0, 1), -1);
        Check.due("copy to no shelf", x.copy(3, 8, 0, 0, 1), -1);
        Check.due("copy of a strip", x.copy(3, 5, 0, 0, -1), -2);
        Check.due("copy to a strip", x.copy(5, 3, 0, 0, -1), -2);
        Check.due("copy of two sorts", x.copy(0, 2, -1, 0, -1), -2);
        Check.due("copy of nothing", x.copy(5, 0, 0, 0, -1), -3);
        Check.due("copy to nothing", x.copy(0, 5, 0, 0, -1), -3);
        Check.due("copy below", x.copy(0, 1, -1, 0, -1), -4);
        Check.due("copy from below", x.copy(0, 1, -1, 0, 1), -5);
        Check.due("copy to below", x.copy(0, 1, 0, -1, 1), -5);
        Check.due("copy from beyond", x.copy(0, 1, 4, 0, 2), -5);
        Check.due("copy to beyond", x.copy(0, 1, 0, 2, 2), -5);
        Check.due("copy far beyond", x.copy(0, 1, Integer.MAX_VALUE, 0, 1), -5);
        Check.due("copy of too many", x.copy(0, 1, 0, 0, Integer.MAX_VALUE), -5);
        Check.due("copy of none beyond", x.copy(0, 1, 6, 0, 0), -5);
        due(1, 2, 3, 9);
        counted("copy", -1, 2);
        counted("copy", -2, 3);
        counted("copy", -3, 2);
        counted("copy", -4, 1);
        counted("copy", -5, 7);
        x.row(2, 3, 2);
        x.row(4, 3, 2);
        x.set(2, 0, 1L << 40);
        x.copy(2, 4, 0, 1, 1);
        Check.due("copy of a long", x.element(4, 1), 1L << 40);
    }

    private static void due(int shelf, int... elements) {
        for (int i = 0; i < elements.length; i++) {
            Check.due("element " + i + " of shelf " + shelf, x.element(shelf, i), elements[i]);
        }
    }

    private static void element() {
        x = new FoldedInHalf();
        Check.row(x, 0, 7, 8);
        Check.due("element", x.element(0, 1), 8);
        Check.due("element beyond", x.element(0, 2), 0);
        Check.due("element below", x.element(0, -1), 0);
        Check.due("element of nothing", x.element(1, 0), 0);
        Check.due("element of no shelf", x.element(8, 0), 0);
        Check.due("element of no shelf", x.element(-1, 0), 0);
        Check.strip(x, 0, 0, "l");
        x.show(0, 0);
        Check.due("element of a strip", x.element(0, 0), 0);
        x.row(0, 3, 1);
        x.set(0, 0, Long.MIN_VALUE);
        Check.due("element, a long", x.element(0, 0), Long.MIN_VALUE);
        for (int refusal = -7; refusal < 0; refusal++) {
            counted("element", refusal, 0);
        }
    }

    private static void show() {
        x = new FoldedInHalf();
        Check.strip(x, 0, 0, "l");
        Check.due("show", x.show(0, 0), 1);
        Check.due("show holds", x.holds(0), 0);
        Check.due("show no strip", x.show(0, 1), -1);
        Check.due("show no strip", x.show(0, -2), -1);
        Check.due("show no shelf", x.show(8, 0), -1);
        Check.due("show no shelf", x.show(-1, -1), -1);
        Check.due("refused, it holds the same", x.holds(0), 0);
        Check.due("show nothing", x.show(0, -1), 0);
        Check.due("show nothing", x.holds(0), -1);
        Check.row(x, 0, 1);
        Check.due("show nothing for a row", x.show(0, -1), 0);
        Check.due("show nothing for a row", x.holds(0), -1);
        Check.due("a row shown over is gone", x.element(0, 0), 0);
        counted("show", -1, 4);
    }

    private static void holds() {
        x = new FoldedInHalf();
        for (int sort = 0; sort < 4; sort++) {
            x.row(sort, sort, sort);
            Check.due("holds a row of sort " + sort, x.holds(sort), 100 + sort);
        }
        Check.strip(x, 0, 0, "l");
        Check.strip(x, 0, 0, "r");
        x.show(6, 1);
        Check.due("holds a strip", x.holds(6), 1);
        Check.due("holds nothing", x.holds(5), -1);
        Check.due("holds no shelf", x.holds(8), -1);
        Check.due("holds no shelf", x.holds(-1), -1);
        counted("holds", -1, 0);
    }

    private static void says() {
        x = new FoldedInHalf();
        Check.strip(x, 0, 5, "llr");
        Check.strip(x, 1, 7, "rrrr");
        Check.strip(x, 2, 0, "lllllll");
        Check.strip(x, 3, 6345, "llllllllllll");
        Check.strip(x, 4, 9, "lll");
        Check.strip(x, 5, 0, "lr");
        Check.strip(x, 6, 0, "r");
        for (int s = 0; s < 7; s++) {
            x.show(s, s);
        }
        int[] folds = {3, 4, 7, 12, 3, 2, 1};
        for (int s = 0; s < 7; s++) {
            Check.due("says, taken for a STRIP " + s, x.says(s, 0), folds[s]);
        }
        Check.due("says SAME", x.says(1, 1), 1);
        Check.due("says THIRD", x.says(2, 2), 186);
        Check.due("says CUT: 6345 modulo 4095 modulo 1000", x.says(3, 3), 250);
        Check.due("says BACK", x.says(4, 4), 2);
        Check.due("says BACK, taken for a CUT", x.says(4, 3), 2);
        Check.due("says GLASS", x.says(5, 5), 0);
        Check.due("says LEFT", x.says(6, 6), 1);
        Check.due("says LEFT, taken for a GLASS", x.says(6, 5), 1);
        int refused = 0;
        for (int s = 0; s < 7; s++) {
            for (int kind = 1; kind < 7; kind++) {
                boolean under = kind == s || s == 4 && kind == 3 || s == 6 && kind == 5;
                if (!under) {
                    Check.due("says of " + s + " for " + kind, x.says(s, kind), -2);
                    refused++;
                }
            }
        }
        Check.due("says kind -1", x.says(0, -1), -1);
        Check.due("says kind 7", x.says(7, 7), -1);
        Check.due("says no shelf", x.says(8, 0), -1);
        Check.due("says no shelf", x.says(-1, 0), -1);
        x.row(7, 0, 1);
        Check.due("says of a row", x.says(7, 0), -2);
        x.show(7, -1);
        Check.due("says of nothing", x.says(7, 1), -3);
        counted("says", -1, 4);
        counted("says", -2, refused + 1);
        counted("says", -3, 1);
        x.turn(0, 0);
        Check.text(x, 7, "less 0");
        x.read(7);
        Check.due("says of the strip as it is then", x.says(0, 0), 2);
    }
}
