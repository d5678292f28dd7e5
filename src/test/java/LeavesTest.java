/** Promises 31 to 34: leaves folded to one, and pages. */
public final class LeavesTest {
    private static FoldedInHalf x;

    public static void main(String[] args) {
        can();
        orders();
        order();
        page();
        Check.report();
    }

    private static void counted(String what, int refusal, long want) {
        Check.due("refusals " + refusal + " behind " + what, x.status(10 - refusal), want);
    }

    private static void can(int due, int... order) {
        Check.row(x, 0, order);
        Check.due("can " + java.util.Arrays.toString(order), x.can(0, order.length), due);
    }

    private static void can() {
        x = new FoldedInHalf();
        can(1, 0);
        can(1, 1, 0);
        can(1, 1, 0, 2);
        // 0 2 1 3: folds 0 1 and 2 3 cross. 0 3 1 2: they don't, nor does 1 2 any.
        can(0, 0, 2, 1, 3);
        can(1, 0, 1, 3, 2);
        can(0, 0, 3, 1, 2);
        can(0, 0, 2, 3, 1, 4, 5, 7, 6);
        can(1, 0, 1, 2, 3, 4, 5, 6, 7);
        can(1, 7, 6, 5, 4, 3, 2, 1, 0);
        // 1 2 and 3 4 cross, 0 1 and 2 3 don't.
        can(0, 0, 1, 3, 2, 4);
        can(-6, 0, 0);
        can(-6, 1, 2);
        can(-6, -1, 0);
        can(-6, 0, 2, 1, 3, 4, 5, 6, 8);
        Check.row(x, 0, 1, 0, 2, 5, 5, 5, 5, 5, 5);
        Check.due("can of the first 3", x.can(0, 3), 1);
        Check.due("can of 4", x.can(0, 4), -6);
        Check.due("can of 9", x.can(0, 9), -6);
        Check.due("can of 0", x.can(0, 0), -6);
        Check.due("can of 10", x.can(0, 10), -5);
        Check.due("can of -1", x.can(0, -1), -4);
        Check.due("can of nothing", x.can(1, -1), -3);
        Check.due("can of no shelf", x.can(8, -1), -1);
        Check.due("can of no shelf", x.can(-1, 1), -1);
        Check.strip(x, 0, 0, "l");
        x.show(1, 0);
        Check.due("can of a strip", x.can(1, -1), -2);
        counted("can", -1, 2);
        counted("can", -2, 1);
        counted("can", -3, 1);
        counted("can", -4, 1);
        counted("can", -5, 1);
        counted("can", -6, 7);
        x.row(2, 3, 1);
        x.set(2, 0, 1L << 32);
        Check.due("can of a long", x.can(2, 1), 1);
    }

    private static void orders() {
        x = new FoldedInHalf();
        int[] due = {-6, 1, 2, 6, 16, 50, 144, 462, 1392, -6};
        for (int n = 0; n < due.length; n++) {
            Check.due("orders of " + n, x.orders(n), due[n]);
        }
        for (int n = 9; n >= 0; n--) {
            Check.due("orders of " + n + " again", x.orders(n), due[n]);
        }
        Check.due("orders of -1", x.orders(-1), -6);
        counted("orders", -6, 5);
    }

    private static void order() {
        x = new FoldedInHalf();
        int[][] three = {{0, 1, 2}, {0, 2, 1}, {1, 0, 2}, {1, 2, 0}, {2, 0, 1}, {2, 1, 0}};
        for (int i = 0; i < 6; i++) {
            for (int place = 0; place < 3; place++) {
                Check.due("order 3 " + i + " " + place, x.order(3, i, place), three[i][place]);
            }
        }
        for (int n = 8; n > 0; n--) {
            int ahead = -1;
            for (int i = 0; i < x.orders(n); i++) {
                int row = 0;
                x.row(0, 0, n);
                for (int place = 0; place < n; place++) {
                    int leaf = x.order(n, i, place);
                    x.set(0, place, leaf);
                    row = row * 8 + leaf;
                }
                Check.due("order " + i + " of " + n + " can be", x.can(0, n), 1);
                Check.holds("order " + i + " of " + n + " stands behind the one ahead", row > ahead);
                ahead = row;
            }
        }
        counted("order", -5, 0);
        Check.due("order beyond", x.order(3, 6, 0), -5);
        Check.due("order place beyond", x.order(3, 0, 3), -5);
        Check.due("order below", x.order(3, -1, 0), -5);
        Check.due("order place below", x.order(3, 0, -1), -5);
        Check.due("order beyond 8", x.order(8, 1392, 0), -5);
        Check.due("order of 0", x.order(0, 0, 0), -6);
        Check.due("order of 9", x.order(9, 0, 0), -6);
        counted("order", -5, 5);
        counted("order", -6, 2);
    }

    private static void page() {
        x = new FoldedInHalf();
        int[][] due = {{1, 0}, {1, 2, 3, 0}, {3, 4, 7, 0, 1, 6, 5, 2}};
        due[2] = folded(3);
        for (int f = 1; f <= 3; f++) {
            for (int place = 0; place < 1 << f; place++) {
                Check.due("page " + f + " " + place, x.page(f, place), due[f - 1][place]);
            }
        }
        for (int f = 1; f <= 6; f++) {
            int[] pile = folded(f);
            for (int place = 0; place < pile.length; place++) {
                Check.due("page " + f + " " + place, x.page(f, place), pile[place]);
            }
            Check.due("leaf 0 lies lowest", x.page(f, (1 << f) - 1), 0);
        }
        Check.due("page beyond", x.page(1, 2), -5);
        Check.due("page beyond", x.page(6, 64), -5);
        Check.due("page below", x.page(6, -1), -5);
        Check.due("page of 0", x.page(0, 0), -6);
        Check.due("page of 7", x.page(7, 0), -6);
        Check.due("page of -1", x.page(-1, 0), -6);
        counted("page", -5, 3);
        counted("page", -6, 3);
    }

    /** Piles folded one onto the other: the one from the right goes on top, upside down. */
    private static int[] folded(int f) {
        int[][] piles = new int[1 << f][];
        for (int leaf = 0; leaf < piles.length; leaf++) {
            piles[leaf] = new int[] {leaf};
        }
        while (piles.length > 1) {
            int[][] half = new int[piles.length / 2][];
            for (int i = 0; i < half.length; i++) {
                int[] over = piles[piles.length - 1 - i];
                int[] under = piles[i];
                half[i] = new int[2 * under.length];
                for (int k = 0; k < under.length; k++) {
                    half[i][k] = over[over.length - 1 - k];
                    half[i][under.length + k] = under[k];
                }
            }
            piles = half;
        }
        return piles[0];
    }
}
