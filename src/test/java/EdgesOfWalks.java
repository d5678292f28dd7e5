/** The terms: what is WALKED, PASSED, COVERED, two bugs, FOUR strips. */
final class EdgesOfWalks extends Edge {
    private static final int WIDE = 40;

    static void run() {
        walked();
        passed();
        most();
        twice();
        cover();
        nearest();
        four();
    }

    private static void walked() {
        says(0, "WALKED: n SIDES (0 to 4000, no more than there are; PLACES 0 to n).");
        strip(0, 0, L40);
        strip(0, 0, "lrl");
        int lastX = (int) x.place(0, 4000, 0);
        int lastY = (int) x.place(0, 4000, 1);
        is(x.passed(0, 4000, lastX, lastY), x.passed(0, 3999, lastX, lastY) + 1);
        is(x.passed(0, 0, 0, 0), 1);
        is(x.passed(1, 7, 2, 2), 0);
        is(x.passed(1, 8, 2, 2), 1);
        no(-5, () -> x.passed(1, 9, 2, 2));
        no(-6, () -> x.passed(0, 4001, 0, 0));
        no(-6, () -> x.passed(0, -1, 0, 0));
        no(-6, () -> x.passed(1, -1, 0, 0));
        no(-5, () -> x.passed(1, 4001, 0, 0));
    }

    private static void passed() {
        says(0, "PASSED: how often it is at (x, y).");
        strip(0, 0, "lrl");
        is(x.passed(0, 6, 2, 1), 1);
        is(x.passed(0, 7, 2, 1), 2);
        is(x.passed(0, 8, 2, 1), 2);
        is(x.passed(0, 8, 0, 0), 1);
        is(x.passed(0, 8, 1, 2), 0);
        is(x.passed(0, 8, Integer.MIN_VALUE, Integer.MIN_VALUE), 0);
        is(x.passed(0, 8, Integer.MAX_VALUE, 0), 0);
        // Below 0, too: a LEFT is at (1, -2) behind 5 and 9 SIDES.
        strip(6, 0, L40);
        is(x.passed(1, 8, 1, -2), 1);
        is(x.passed(1, 9, 1, -2), 2);
        is(x.passed(1, 15, 0, 0), 1);
        is(x.passed(1, 16, 0, 0), 2);
        is(x.passed(1, 4000, 0, 0), 251);
    }

    private static void most() {
        says(0, "MOST: how often it is at most anywhere.");
        strip(0, 0, "lrl");
        is(x.most(0, 0), 1);
        is(x.most(0, 6), 1);
        is(x.most(0, 7), 2);
        is(x.most(0, 8), 2);
        // Each 16 SIDES a LEFT by l is at (1, 0) behind 1 and behind 13.
        strip(6, 0, L40);
        is(x.most(1, 8), 1);
        is(x.most(1, 9), 2);
        is(x.most(1, 16), 2);
        is(x.most(1, 17), 3);
        is(x.most(1, 4000), 500);
        is(x.most(0, 0), 1);
    }

    private static void twice() {
        says(0, "SIDES gone along twice (either way): how many of the n SIDES were gone along ahead already.");
        strip(0, 0, "lrl");
        strip(6, 0, L40);
        is(x.twice(0, 0), 0);
        is(x.twice(0, 8), 0);
        is(x.twice(1, 0), 0);
        is(x.twice(1, 16), 0);
        is(x.twice(1, 17), 1);
        is(x.twice(1, 32), 16);
        // The third time counts as the second.
        is(x.twice(1, 48), 32);
        is(x.twice(1, 4000), 3984);
        // Two PLACES met again without a SIDE between them gone along again.
        is(x.most(1, 9), 2);
        is(x.twice(1, 9), 0);
    }

    private static void cover() {
        says(0, "COVER: how many unlike PLACES.");
        strip(0, 0, "lrl");
        strip(6, 0, L40);
        is(x.cover(0, 0), 1);
        is(x.cover(0, 1), 2);
        is(x.cover(0, 6), 7);
        is(x.cover(0, 7), 7);
        is(x.cover(0, 8), 8);
        is(x.cover(1, 8), 9);
        is(x.cover(1, 9), 9);
        is(x.cover(1, 16), 13);
        is(x.cover(1, 4000), 13);
    }

    private static void nearest() {
        says(0, "NEAREST of two STRIPS walked at the same time, the second one from (dx, dy) on (-100 to 100 each): "
            + "the least square of how far apart they are at any of PLACES 0 to n; the first time.");
        // (0,0) (1,0) (1,1) (0,1) (0,2) and (0,0) (1,0) (1,1) (2,1) (2,0) (3,0) (3,1) (2,1) (2,2).
        strip(0, 0, "ll");
        strip(0, 0, "lrl");
        is(x.near(0, 1, 0, 0, 0, 0), 0);
        is(x.near(0, 1, 0, 3, 4, 0), 25);
        is(x.near(0, 1, 4, 3, 4, 0), 25);
        is(x.near(0, 1, 4, 3, 4, 1), 0);
        is(x.near(0, 1, 2, -2, 0, 0), 4);
        is(x.near(0, 1, 3, -2, 0, 0), 0);
        is(x.near(0, 1, 3, -2, 0, 1), 3);
        is(x.near(0, 1, 4, -2, 2, 0), 0);
        is(x.near(0, 1, 4, -2, 2, 1), 4);
        is(x.near(0, 1, 3, -2, 2, 1), 3);
        // From the second one on its own: the other way about.
        is(x.near(1, 0, 4, 2, -2, 0), 0);
        is(x.near(1, 0, 4, -2, 2, 0), 8);
        is(x.near(1, 0, 4, -2, 2, 1), 0);
        is(x.near(0, 0, 4, 100, 100, 0), 20000);
        is(x.near(0, 0, 4, -100, -100, 0), 20000);
        is(x.near(0, 0, 4, -100, 100, 0), 20000);
        no(-6, () -> x.near(0, 0, 4, 101, 0, 0));
        no(-6, () -> x.near(0, 0, 4, -101, 0, 0));
        no(-6, () -> x.near(0, 0, 4, 0, 101, 0));
        no(-6, () -> x.near(0, 0, 4, 0, -101, 0));
        no(-6, () -> x.near(0, 0, 4, Integer.MIN_VALUE, 0, 0));
        no(-6, () -> x.near(0, 0, 4, 0, Integer.MAX_VALUE, 0));
    }

    private static void four() {
        says(0, "FOUR (a STRIP four times, the first SIDE going each WAY, n SIDES each): the greatest REACH (0 to 30) "
            + "such that all SIDES between neighbouring points no farther than REACH from (0, 0) either way are gone "
            + "along just once by the four together, and none of them oftener.");
        strip(0, 0, "ll");
        strip(0, 0, "lr");
        strip(6, 0, L40);
        is(x.four(0, 0), 0);
        is(x.four(0, 1), 0);
        is(x.four(0, 2), 0);
        is(x.four(0, 3), 1);
        is(x.four(0, 4), 1);
        is(x.four(1, 4), 0);
        // The LEFT: all 12 SIDES of REACH 1 by its first 3, 24 of the 28 farther ones of REACH 2 by the next 9.
        is(x.four(2, 2), 0);
        is(x.four(2, 3), 1);
        is(x.four(2, 12), 1);
        // SIDE 13 is one of the second STRIP's SIDE 4, though there are 28 of REACH 2 gone along now.
        is(x.four(2, 13), 1);
        // SIDE 14 is one of REACH 1 that was gone along.
        is(x.four(2, 14), 0);
        is(x.four(2, 1000), 0);
        // Always folded left, four strips fill more and more.
        strip(0, 0, L40);
        for (int n = 0; n <= 1000; n += 8) {
            is(x.four(3, n), slowFour(3, n));
        }
        holds(x.four(3, 1000) > 5);
    }

    /** REACH by a table of how often each SIDE near by is gone along: [across or up][x][y]. */
    private static int slowFour(int strip, int n) {
        int[][][] gone = new int[2][2 * WIDE][2 * WIDE];
        for (int i = 1; i <= n; i++) {
            int fromX = (int) x.place(strip, i - 1, 0);
            int fromY = (int) x.place(strip, i - 1, 1);
            int toX = (int) x.place(strip, i, 0);
            int toY = (int) x.place(strip, i, 1);
            for (int turn = 0; turn < 4; turn++) {
                int u = Math.min(fromX, toX);
                int v = Math.min(fromY, toY);
                if (Math.abs(u) < WIDE && Math.abs(v) < WIDE) {
                    gone[fromX == toX ? 1 : 0][u + WIDE][v + WIDE]++;
                }
                int turnedFrom = -fromY;
                fromY = fromX;
                fromX = turnedFrom;
                int turnedTo = -toY;
                toY = toX;
                toX = turnedTo;
            }
        }
        int reach = 0;
        while (reach < 30 && isOnce(gone, reach + 1)) {
            reach++;
        }
        return reach;
    }

    private static boolean isOnce(int[][][] gone, int reach) {
        for (int u = -reach; u <= reach; u++) {
            for (int v = -reach; v < reach; v++) {
                if (gone[1][u + WIDE][v + WIDE] != 1 || gone[0][v + WIDE][u + WIDE] != 1) {
                    return false;
                }
            }
        }
        return true;
    }
}
