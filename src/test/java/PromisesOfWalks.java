import java.util.HashMap;
import java.util.HashSet;
import java.util.List;
import java.util.Map;
import java.util.Set;
import java.util.function.IntSupplier;

/** Promises 18 to 24, clause by clause: what is walked. */
final class PromisesOfWalks extends Edge {
    /** One of the calls that walk n SIDES of a STRIP. */
    private interface Walked {
        int of(int strip, int n);
    }

    static void run() {
        walked(18, "PASSED by n SIDES at (x, y).", 4000, (strip, n) -> x.passed(strip, n, 0, 0), () -> passed());
        walked(19, "MOST.", 4000, (strip, n) -> x.most(strip, n), () -> most());
        walked(20, "SIDES gone along twice.", 4000, (strip, n) -> x.twice(strip, n), () -> twice());
        walked(21, "COVER.", 4000, (strip, n) -> x.cover(strip, n), () -> cover());
        when();
        near();
        nearRefused();
        walked(24, "FOUR (n 0 to 1000): REACH.", 1000, (strip, n) -> x.four(strip, n), () -> four());
    }

    /** What is so of each of them: the most SIDES, the fewest, and which refusal goes ahead. */
    private static void walked(int promise, String words, int most, Walked call, IntSupplier own) {
        says(promise, words);
        is(own.getAsInt(), 1);
        x = new FoldedInHalf();
        strip(0, 0, L40);
        strip(0, 0, "lrl");
        holds(call.of(0, 0) >= 0);
        holds(call.of(0, most) >= 0);
        holds(call.of(1, 0) >= 0);
        holds(call.of(1, 8) >= 0);
        says(promise, "-1;");
        strip(0, 0, "lrl");
        no(-1, () -> call.of(1, 0));
        no(-1, () -> call.of(-1, 0));
        no(-1, () -> call.of(1, -1));
        no(-1, () -> call.of(1, most + 1));
        no(-1, () -> call.of(Integer.MIN_VALUE, 9));
        says(promise, promise == 18 ? "-5 not so many SIDES;" : "-5;");
        strip(0, 0, "lrl");
        strip(3, 2, "lrl");
        strip(2, 0, "l");
        no(-5, () -> call.of(0, 9));
        no(-5, () -> call.of(0, most + 1));
        no(-5, () -> call.of(0, Integer.MAX_VALUE));
        no(-5, () -> call.of(1, 7));
        no(-5, () -> call.of(2, 4));
        holds(call.of(1, 6) >= 0 && call.of(2, 3) >= 0);
        says(promise, promise == 18 ? "-6 n." : "-6.");
        strip(0, 0, L40);
        strip(0, 0, "lrl");
        no(-6, () -> call.of(0, most + 1));
        no(-6, () -> call.of(0, Integer.MAX_VALUE));
        no(-6, () -> call.of(0, -1));
        no(-6, () -> call.of(1, -1));
        no(-6, () -> call.of(1, Integer.MIN_VALUE));
    }

    private static int passed() {
        strip(0, 0, "lrl");
        is(x.passed(0, 0, 0, 0), 1);
        is(x.passed(0, 0, 1, 0), 0);
        is(x.passed(0, 7, 2, 1), 2);
        is(x.passed(0, 8, 2, 2), 1);
        // Each PLACE of the strip by itself, told one by one.
        int all = 0;
        for (int u = -1; u <= 4; u++) {
            for (int v = -1; v <= 3; v++) {
                all += x.passed(0, 8, u, v);
            }
        }
        is(all, 9);
        return 1;
    }

    private static int most() {
        strip(0, 0, "lrl");
        strip(6, 0, L40);
        is(x.most(0, 6), 1);
        is(x.most(0, 7), 2);
        is(x.most(1, 4000), 500);
        longOnes();
        for (int strip = 0; strip < 7; strip++) {
            int most = 0;
            for (int times : timesAtPlaces(strip, 4000).values()) {
                most = Math.max(most, times);
            }
            is(x.most(strip, 4000), most);
        }
        return 1;
    }

    /** A STRIP of each KIND with more than 4000 SIDES. */
    private static void longOnes() {
        x = new FoldedInHalf();
        for (int kind = 0; kind < 7; kind++) {
            strip(kind, 123457, kind == 2 ? "lrrlrlllr" : "lrllrlrrlllrlrlrrlrl");
        }
    }

    /** How often each PLACE is met, told one by one. */
    private static Map<List<Long>, Integer> timesAtPlaces(int strip, int n) {
        Map<List<Long>, Integer> times = new HashMap<>();
        for (int i = 0; i <= n; i++) {
            times.merge(List.of(x.place(strip, i, 0), x.place(strip, i, 1)), 1, Integer::sum);
        }
        return times;
    }

    private static int twice() {
        strip(6, 0, L40);
        is(x.twice(0, 16), 0);
        is(x.twice(0, 17), 1);
        is(x.twice(0, 4000), 3984);
        longOnes();
        for (int strip = 0; strip < 7; strip++) {
            Set<List<Long>> middles = new HashSet<>();
            for (int i = 1; i <= 4000; i++) {
                middles.add(List.of(x.place(strip, i - 1, 0) + x.place(strip, i, 0),
                    x.place(strip, i - 1, 1) + x.place(strip, i, 1)));
            }
            is(x.twice(strip, 4000), 4000 - middles.size());
        }
        return 1;
    }

    private static int cover() {
        strip(0, 0, "lrl");
        strip(2, 0, L40.substring(15));
        is(x.cover(0, 0), 1);
        is(x.cover(0, 8), 8);
        is(x.cover(1, 3), 4);
        longOnes();
        for (int strip = 0; strip < 7; strip++) {
            is(x.cover(strip, 4000), timesAtPlaces(strip, 4000).size());
            is(x.cover(strip, 2000), timesAtPlaces(strip, 2000).size());
        }
        return 1;
    }

    private static int four() {
        strip(0, 0, "ll");
        is(x.four(0, 0), 0);
        is(x.four(0, 3), 1);
        is(x.four(0, 4), 1);
        return 1;
    }

    private static void when() {
        says(22, "The i-th time (from 0 on) at which it is at (x, y) (0 to 4000 SIDES, no more than there are); NONE.");
        strip(0, 0, "lrl");
        strip(6, 0, L40);
        strip(0, 0, L40);
        is(x.when(0, 0, 0, 0), 0);
        is(x.when(0, 0, 0, 1), NONE);
        is(x.when(0, 2, 1, 0), 3);
        is(x.when(0, 2, 1, 1), 7);
        is(x.when(0, 2, 1, 2), NONE);
        is(x.when(0, 2, 2, 0), 8);
        is(x.when(0, 5, 5, 0), NONE);
        is(x.when(0, Integer.MIN_VALUE, Integer.MAX_VALUE, Integer.MAX_VALUE), NONE);
        is(x.when(1, 0, 0, 249), 3984);
        is(x.when(1, 0, 0, 250), 4000);
        is(x.when(1, 0, 0, 251), NONE);
        is(x.when(1, 1, 0, 499), 3997);
        is(x.when(1, 1, 0, 500), NONE);
        // PLACES 4000 and 4001 of the long one: the first is looked at.
        int times = x.passed(2, 3999, (int) x.place(2, 4000, 0), (int) x.place(2, 4000, 1));
        is(x.when(2, (int) x.place(2, 4000, 0), (int) x.place(2, 4000, 1), times), 4000);
        int later = x.passed(2, 4000, (int) x.place(2, 4001, 0), (int) x.place(2, 4001, 1));
        is(x.when(2, (int) x.place(2, 4001, 0), (int) x.place(2, 4001, 1), later), NONE);
        says(22, "-11;");
        no(-11, () -> x.when(0, 0, 0, 0));
        no(-11, () -> x.when(-1, 0, 0, -1));
        says(22, "-15 i below 0 (counted as -1, -5).");
        strip(0, 0, "l");
        no(-15, () -> x.when(0, 0, 0, -1));
        no(-15, () -> x.when(0, 0, 0, Integer.MIN_VALUE));
        x.when(1, 0, 0, 0);
        is(x.status(15), 2);
        is(x.status(11), 1);
    }

    private static void near() {
        says(23, "NEAREST (n 0 to 4000; how far apart squared (what 0), the first time (1)).");
        strip(0, 0, "ll");
        strip(0, 0, "lrl");
        strip(6, 0, L40);
        strip(0, 0, L40);
        is(x.near(3, 3, 4000, 0, 0, 1), 0);
        is(x.near(0, 1, 0, -2, 2, 0), 8);
        is(x.near(0, 1, 0, -2, 2, 1), 0);
        is(x.near(0, 1, 3, -2, 2, 0), 4);
        is(x.near(0, 1, 3, -2, 2, 1), 3);
        is(x.near(0, 1, 4, -2, 2, 0), 0);
        is(x.near(0, 1, 4, -2, 2, 1), 4);
        is(x.near(2, 2, 4000, 1, 1, 0), 2);
        is(x.near(2, 2, 4000, 1, 1, 1), 0);
        // A CUT that meets the LEFT behind just 4000 SIDES.
        strip(3, 94981, L40);
        int farX = (int) (x.place(2, 4000, 0) - x.place(4, 4000, 0));
        int farY = (int) (x.place(2, 4000, 1) - x.place(4, 4000, 1));
        is(x.near(2, 4, 4000, farX, farY, 0), 0);
        is(x.near(2, 4, 4000, farX, farY, 1), 4000);
        is(x.near(2, 4, 3999, farX, farY, 0), 4);
        is(x.near(2, 4, 3999, farX, farY, 1), 3772);
    }

    private static void nearRefused() {
        says(23, "-1 either;");
        strip(0, 0, "lrl");
        no(-1, () -> x.near(1, 0, 0, 0, 0, 0));
        no(-1, () -> x.near(0, 1, 0, 0, 0, 0));
        no(-1, () -> x.near(0, -1, 9, 101, 101, 2));
        no(-1, () -> x.near(-1, 0, -1, 101, 101, 2));
        says(23, "-5 not so many SIDES, another what;");
        strip(0, 0, "lrl");
        strip(0, 0, L40);
        no(-5, () -> x.near(0, 1, 9, 0, 0, 0));
        no(-5, () -> x.near(1, 0, 9, 0, 0, 0));
        no(-5, () -> x.near(1, 0, 4001, 101, 0, 0));
        no(-5, () -> x.near(1, 1, 8, 0, 0, 2));
        no(-5, () -> x.near(1, 1, 8, 0, 0, -1));
        no(-5, () -> x.near(1, 1, -1, 0, 0, 2));
        no(-5, () -> x.near(1, 1, 8, 101, 0, 2));
        is(x.near(0, 1, 8, 0, 0, 0), 0);
        says(23, "-6.");
        strip(0, 0, L40);
        strip(0, 0, "lrl");
        no(-6, () -> x.near(0, 0, 4001, 0, 0, 0));
        no(-6, () -> x.near(0, 0, -1, 0, 0, 1));
        no(-6, () -> x.near(1, 1, -1, 0, 0, 0));
        no(-6, () -> x.near(1, 1, 1, 101, 0, 0));
        no(-6, () -> x.near(1, 1, 1, -101, 0, 1));
        no(-6, () -> x.near(1, 1, 1, 0, 101, 0));
        no(-6, () -> x.near(1, 1, 1, 0, -101, 0));
        is(x.near(0, 0, 4000, 100, -100, 0), 20000);
        is(x.near(1, 1, 8, -100, 100, 1), 0);
    }
}
