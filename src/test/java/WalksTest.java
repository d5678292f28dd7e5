/** Promises 18 to 24: walks by sides. Strip 0 is laid out in CreasesTest, side by side. */
public final class WalksTest {
    private static final String L40 = "llllllllllllllllllllllllllllllllllllllll";
    private static FoldedInHalf x;

    public static void main(String[] args) {
        passed();
        mostAndCover();
        twice();
        when();
        near();
        four();
        refusals();
        Check.report();
    }

    private static void counted(String what, int refusal, long want) {
        Check.due("refusals " + refusal + " behind " + what, x.status(10 - refusal), want);
    }

    /** 0: places (0,0) (1,0) (1,1) (2,1) (2,0) (3,0) (3,1) (2,1) (2,2); 1: LEFT; 2: THIRD; 3: of 40. */
    private static void strips() {
        x = new FoldedInHalf();
        Check.strip(x, 0, 0, "lrl");
        Check.strip(x, 6, 0, L40);
        Check.strip(x, 2, 0, "l");
        Check.strip(x, 0, 0, L40);
    }

    private static void passed() {
        strips();
        Check.due("passed at the beginning", x.passed(0, 0, 0, 0), 1);
        Check.due("passed once", x.passed(0, 6, 2, 1), 1);
        Check.due("passed twice", x.passed(0, 7, 2, 1), 2);
        Check.due("passed by the last side", x.passed(0, 7, 2, 2), 0);
        Check.due("passed by the last side", x.passed(0, 8, 2, 2), 1);
        Check.due("passed never", x.passed(0, 8, 0, 1), 0);
        Check.due("passed far off", x.passed(0, 8, Integer.MIN_VALUE, Integer.MAX_VALUE), 0);
        Check.due("LEFT comes back", x.passed(1, 4000, 0, 0), 251);
    }

    private static void mostAndCover() {
        strips();
        Check.due("most of one place", x.most(0, 0), 1);
        Check.due("cover of one place", x.cover(0, 0), 1);
        Check.due("most of 6", x.most(0, 6), 1);
        Check.due("cover of 6", x.cover(0, 6), 7);
        Check.due("most of 8", x.most(0, 8), 2);
        Check.due("cover of 8", x.cover(0, 8), 8);
        Check.due("most of a THIRD", x.most(2, 3), 1);
        Check.due("cover of a THIRD", x.cover(2, 3), 4);
        // 16 sides bring a LEFT back, so all it covers is there behind 16.
        Check.due("LEFT covers no more", x.cover(1, 4000), x.cover(1, 16));
        Check.due("LEFT is most at", x.most(1, 4000) >= 251 ? 1 : 0, 1);
        // A strip always folded one way is at no place more than twice.
        Check.due("most of 4000", x.most(3, 4000), 2);
        Check.due("asked again", x.most(0, 8), 2);
        Check.due("asked again", x.cover(0, 8), 8);
    }

    private static void twice() {
        strips();
        Check.due("twice of none", x.twice(0, 0), 0);
        Check.due("twice of 8", x.twice(0, 8), 0);
        Check.due("a strip runs over no side again", x.twice(3, 4000), 0);
        Check.due("LEFT of 16", x.twice(1, 16), 0);
        Check.due("LEFT of 16 and one", x.twice(1, 17), 1);
        Check.due("LEFT runs over its 16 again", x.twice(1, 4000), 3984);
        Check.due("asked again", x.twice(1, 17), 1);
    }

    private static void when() {
        strips();
        Check.due("when at the beginning", x.when(0, 0, 0, 0), 0);
        Check.due("when first", x.when(0, 2, 1, 0), 3);
        Check.due("when second", x.when(0, 2, 1, 1), 7);
        Check.due("when third", x.when(0, 2, 1, 2), -1);
        Check.due("when at the last place", x.when(0, 2, 2, 0), 8);
        Check.due("when never", x.when(0, 5, 5, 0), -1);
        Check.due("when LEFT is back last", x.when(1, 0, 0, 250), 4000);
        Check.due("when LEFT is back too late", x.when(1, 0, 0, 251), -1);
        Check.due("when no strip", x.when(4, 0, 0, -1), -11);
        Check.due("when no strip", x.when(-1, 0, 0, 0), -11);
        Check.due("when below", x.when(0, 0, 0, -1), -15);
        counted("when", -1, 2);
        counted("when", -5, 1);
    }

    private static void near() {
        strips();
        Check.due("near itself", x.near(0, 0, 8, 0, 0, 0), 0);
        Check.due("near itself, first", x.near(0, 0, 8, 0, 0, 1), 0);
        Check.due("near itself, beside", x.near(0, 0, 8, 3, -4, 0), 25);
        Check.due("near, no sides", x.near(0, 3, 0, -100, 100, 0), 20000);
        // The THIRD: (0,0) (1,0) (1,1) (2,1); the strip is one right of it behind 3 sides at most.
        Check.due("near of two alike so far", x.near(0, 2, 3, 0, 0, 0), 0);
        Check.due("near of two beside", x.near(2, 0, 3, 1, 0, 0), 1);
        // The strip of l alone: (0,0) (1,0) (1,1) (0,1); behind 3 sides 2 apart.
        Check.due("near of two", x.near(0, 3, 3, 3, 0, 0), 1);
        Check.due("near of two, first", x.near(0, 3, 3, 3, 0, 1), 3);
        // Behind 4 sides one is at (2, 0), the other at (0, 2).
        Check.due("near from below", x.near(0, 3, 4, 2, -2, 0), 0);
        Check.due("near from below, first", x.near(0, 3, 4, 2, -2, 1), 4);
        Check.due("near from above", x.near(0, 3, 4, 2, 2, 0), 4);
        Check.due("near from above, first", x.near(0, 3, 4, 2, 2, 1), 3);
        Check.due("near the other way about", x.near(3, 0, 3, -3, 0, 0), 1);
        Check.due("near 4000", x.near(1, 3, 4000, 0, 0, 1), 0);
        Check.due("near no strip", x.near(4, 0, 9, 0, 0, 2), -1);
        Check.due("near no other", x.near(0, -1, 9, 0, 0, 2), -1);
        Check.due("near not so many sides", x.near(0, 3, 9, 101, 0, 0), -5);
        Check.due("near not so many of the other", x.near(3, 0, 9, 101, 0, 0), -5);
        Check.due("near another what", x.near(0, 3, -1, 0, 0, 2), -5);
        Check.due("near another what", x.near(0, 3, 1, 0, 0, -1), -5);
        Check.due("near n -1", x.near(0, 3, -1, 0, 0, 0), -6);
        Check.due("near n 4001", x.near(1, 3, 4001, 0, 0, 0), -6);
        Check.due("near dx 101", x.near(0, 3, 1, 101, 0, 0), -6);
        Check.due("near dx -101", x.near(0, 3, 1, -101, 0, 0), -6);
        Check.due("near dy 101", x.near(0, 3, 1, 0, 101, 1), -6);
        Check.due("near dy -101", x.near(0, 3, 1, 0, -101, 1), -6);
        counted("near", -1, 2);
        counted("near", -5, 4);
        counted("near", -6, 6);
    }

    private static void four() {
        x = new FoldedInHalf();
        Check.strip(x, 0, 0, L40);
        Check.strip(x, 6, 0, L40);
        Check.strip(x, 0, 0, "lr");
        Check.due("four of none", x.four(0, 0), 0);
        Check.due("four of 1", x.four(0, 1), 0);
        // All four sides about (0, 0) and the eight round them.
        Check.due("four of 2", x.four(0, 2), 0);
        Check.due("four of 3", x.four(0, 3), 1);
        Check.due("four of 1000", x.four(0, 1000), 11);
        Check.due("four of a strip so short", x.four(2, 4), 0);
        int ahead = 0;
        for (int n = 0; n <= 1000; n += 50) {
            int reach = x.four(0, n);
            Check.holds("four grows with the sides, " + n, reach >= ahead && reach <= 30);
            ahead = reach;
        }
        // A LEFT runs over its first side again, and so do the four.
        Check.due("four of a LEFT, a side farther out run over again", x.four(1, 13), 1);
        int early = x.four(1, 16);
        Check.due("four of a LEFT that runs over all again", x.four(1, 32), 0);
        Check.holds("four of a LEFT", early >= 0 && early <= 2);
    }

    private static void refusals() {
        strips();
        int[] few = {x.passed(0, 9, 0, 0), x.most(0, 9), x.twice(0, 9), x.cover(0, 9), x.four(0, 9)};
        int[] far = {x.passed(0, 4001, 0, 0), x.most(0, 4001), x.twice(0, 4001), x.cover(0, 4001),
            x.four(0, 1001)};
        int[] below = {x.passed(0, -1, 0, 0), x.most(0, -1), x.twice(0, -1), x.cover(0, -1), x.four(0, -1)};
        int[] above = {x.passed(3, 4001, 0, 0), x.most(3, 4001), x.twice(3, 4001), x.cover(3, 4001),
            x.four(3, 1001)};
        int[] none = {x.passed(4, 4001, 0, 0), x.most(4, -1), x.twice(4, -1), x.cover(4, 0), x.four(4, 0)};
        int[] under = {x.passed(-1, 0, 0, 0), x.most(-1, 0), x.twice(-1, 0), x.cover(-1, 0), x.four(-1, 0)};
        for (int i = 0; i < 5; i++) {
            Check.due("not so many sides, " + i, few[i], -5);
            Check.due("not so many sides, nor so many may be, " + i, far[i], -5);
            Check.due("n below 0, " + i, below[i], -6);
            Check.due("n above, " + i, above[i], -6);
            Check.due("no strip, " + i, none[i], -1);
            Check.due("no strip, " + i, under[i], -1);
        }
        counted("walks", -1, 10);
        counted("walks", -5, 10);
        counted("walks", -6, 10);
        int[] edge = {x.passed(3, 4000, 0, 0), x.most(3, 4000), x.twice(3, 4000), x.cover(3, 4000),
            x.four(3, 1000)};
        for (int i = 0; i < 5; i++) {
            Check.holds("the edge is no refusal, " + i, edge[i] >= 0);
        }
        Check.due("all 8 sides", x.cover(0, 8), 8);
    }
}
