/** The terms: SHELVES, ACTS, REFUSALS, the details. */
final class EdgesOfShelves extends Edge {
    static void run() {
        shelves();
        rows();
        acts();
        bodiesOfStrip();
        bodiesOfSame();
        bodiesOfThird();
        bodiesOfCut();
        bodiesOfBack();
        bodiesOfGlass();
        bodiesOfLeft();
        kindsAbove();
        trace();
        refusals();
        nobody();
        other();
        nothing();
        below();
        beyond();
        wrong();
        room();
        wholeWord();
        wordsOrder();
    }

    private static void shelves() {
        says(0, "SHELVES 0 to 7 hold NOTHING (at first), a ROW, or a STRIP (by its number, as it is then).");
        for (int s = 0; s < 8; s++) {
            is(x.holds(s), NONE);
        }
        no(-1, () -> x.row(8, 0, 1));
        no(-1, () -> x.row(-1, 0, 1));
        is(x.row(0, 1, 1), 1);
        is(x.holds(0), 101);
        strip(0, 0, "lr");
        is(x.show(0, 0), 1);
        is(x.holds(0), 0);
        is(x.says(0, 0), 2);
        reads("less 0;strip 5 0 l", 2);
        is(x.says(0, 0), 1);
        x.show(1, 1);
        is(x.says(1, 5), 0);
        x.turn(1, 0);
        is(x.says(1, 5), 1);
        is(x.show(0, NONE), 0);
        is(x.holds(0), NONE);
    }

    private static void rows() {
        says(0, "A ROW has a SORT (0 bytes, 1 shorts, 2 ints, 3 longs) and 0 to 160 elements, 0 at first; what is put in "
            + "keeps its lowest bits. (As ints: of longs the lowest 32 bits.)");
        for (int sort = 0; sort < 4; sort++) {
            int of = sort;
            is(x.row(0, sort, 0), 1);
            is(x.holds(0), 100 + sort);
            no(-5, () -> x.set(0, 0, 1));
            is(x.row(0, sort, 160), 1);
            for (int i = 0; i < 160; i++) {
                is(x.element(0, i), 0);
            }
            is(x.set(0, 159, -1), 1);
            is(x.element(0, 159), -1);
            no(-5, () -> x.set(0, 160, -1));
            no(-7, () -> x.row(0, of, 161));
            no(-4, () -> x.row(0, of, -1));
            // Another ROW in its place begins with 0 again.
            x.row(0, sort, 160);
            is(x.element(0, 159), 0);
        }
        no(-6, () -> x.row(0, 4, 1));
        no(-6, () -> x.row(0, -1, 1));
        long[] values = {127, 128, 255, 256, 32767, 32768, 65536, 1L << 31, (1L << 31) - 1, 1L << 32, Long.MIN_VALUE,
            Long.MAX_VALUE};
        long[] bytes = {127, -128, -1, 0, -1, 0, 0, 0, -1, 0, 0, -1};
        long[] shorts = {127, 128, 255, 256, 32767, -32768, 0, 0, -1, 0, 0, -1};
        long[] ints = {127, 128, 255, 256, 32767, 32768, 65536, Integer.MIN_VALUE, Integer.MAX_VALUE, 0, 0, -1};
        long[][] due = {bytes, shorts, ints, values};
        for (int sort = 0; sort < 4; sort++) {
            x.row(1, sort, 1);
            for (int i = 0; i < values.length; i++) {
                x.set(1, 0, values[i]);
                is(x.element(1, 0), due[sort][i]);
            }
        }
        x.row(2, 3, 1);
        x.set(2, 0, (9L << 32) + 1);
        is(x.words(2, 1, 0), 1);
        x.set(2, 0, 1L << 32);
        is(x.can(2, 1), 1);
        is(x.strip(0, 0, 2, 1), 0);
        is(x.stripOf(0, 10), 0);
    }

    private static void acts() {
        says(0, "ACTS of STRIPS, with x (wrapping): 0 folds, 1 opens, 2 lies; m the number, k its a.");
        strip(0, 7, "l");
        strip(0, 7, "l");
        is(x.act(1, 0, 9), 10);
        is(x.act(1, 1, 9), 20);
        is(x.act(1, 2, 9), 20 ^ 3);
        is(x.act(0, 0, 9), 9);
        is(x.act(1, 0, Integer.MAX_VALUE), Integer.MIN_VALUE);
        is(x.act(0, 1, Integer.MAX_VALUE), -2);
        is(x.act(0, 1, Integer.MIN_VALUE), 0);
        is(x.act(0, 2, Integer.MIN_VALUE), Integer.MAX_VALUE - 6);
        is(x.act(0, 3, 9), 0);
        is(x.act(0, -1, 9), 0);
    }

    private static void bodies(int act, int m, int a, int value, int due, int... trace) {
        is(x.act(m, act, value), due);
        is(x.status(3), trace.length);
        for (int i = 0; i < trace.length; i++) {
            is(x.trace(i), trace[i]);
        }
        is(x.trace(trace.length), NONE);
        is(x.stripOf(m, 1), a);
    }

    /** A STRIP of a KIND with number 2 and the greatest a. */
    private static void second(int kind) {
        strip(0, 0, "l");
        strip(0, 0, "l");
        strip(kind, 999999, "lr");
    }

    private static void bodiesOfStrip() {
        says(0, "STRIP: 10 folds: x + m. 11 opens: folds(x) * 2. 12 lies: opens(x) ^ folds(x - k).");
        second(0);
        bodies(0, 2, 999999, 5, 7, 10);
        bodies(1, 2, 999999, 5, 14, 11, 10);
        bodies(2, 2, 999999, 5, 14 ^ 5 - 999999 + 2, 12, 11, 10, 10);
        bodies(0, 2, 999999, Integer.MAX_VALUE, Integer.MIN_VALUE + 1, 10);
        bodies(1, 2, 999999, Integer.MAX_VALUE, 2, 11, 10);
        bodies(2, 2, 999999, Integer.MIN_VALUE, 4 ^ Integer.MIN_VALUE - 999999 + 2, 12, 11, 10, 10);
    }

    private static void bodiesOfSame() {
        says(0, "SAME: 20 folds: super.folds(x) + k.");
        second(1);
        bodies(0, 2, 999999, 5, 7 + 999999, 20, 10);
        bodies(1, 2, 999999, 5, 2 * 1000006, 11, 20, 10);
        bodies(2, 2, 999999, 5, 2 * 1000006 ^ 7, 12, 11, 20, 10, 20, 10);
        bodies(0, 2, 999999, Integer.MAX_VALUE, Integer.MIN_VALUE + 1000000, 20, 10);
    }

    private static void bodiesOfThird() {
        says(0, "THIRD: 30 opens: super.opens(x) * 3.");
        second(2);
        bodies(0, 2, 999999, 5, 7, 10);
        bodies(1, 2, 999999, 5, 42, 30, 11, 10);
        bodies(2, 2, 999999, 5, 42 ^ 5 - 999999 + 2, 12, 30, 11, 10, 10);
        bodies(1, 2, 999999, 1 << 30, Integer.MIN_VALUE + 12, 30, 11, 10);
    }

    private static void bodiesOfCut() {
        says(0, "CUT: 40 opens: super.opens(x + 1).");
        second(3);
        bodies(0, 2, 999999, 5, 7, 10);
        bodies(1, 2, 999999, 5, 16, 40, 11, 10);
        bodies(2, 2, 999999, 5, 16 ^ 5 - 999999 + 2, 12, 40, 11, 10, 10);
        bodies(1, 2, 999999, Integer.MAX_VALUE, 4, 40, 11, 10);
    }

    private static void bodiesOfBack() {
        says(0, "BACK: 50 lies: -super.lies(x). 51 folds: super.folds(x) - m.");
        second(4);
        bodies(0, 2, 999999, 5, 5, 51, 10);
        bodies(1, 2, 999999, 5, 12, 40, 11, 51, 10);
        bodies(2, 2, 999999, 5, -(12 ^ 5 - 999999), 50, 12, 40, 11, 51, 10, 51, 10);
        bodies(0, 2, 999999, Integer.MIN_VALUE, Integer.MIN_VALUE, 51, 10);
    }

    private static void bodiesOfGlass() {
        says(0, "GLASS: 60 lies: super.lies(x) ^ 5.");
        second(5);
        bodies(0, 2, 999999, 5, 7, 10);
        bodies(1, 2, 999999, 5, 14, 11, 10);
        bodies(2, 2, 999999, 5, 14 ^ 5 - 999999 + 2 ^ 5, 60, 12, 11, 10, 10);
    }

    private static void bodiesOfLeft() {
        says(0, "LEFT: 70 folds: super.folds(x) * 2. 71 opens: super.opens(x - k).");
        second(6);
        bodies(0, 2, 999999, 5, 14, 70, 10);
        bodies(1, 2, 999999, 5, (5 - 999999 + 2) * 4, 71, 11, 70, 10);
        bodies(2, 2, 999999, 5, (5 - 999999 + 2) * 4 ^ (5 - 999999 + 2) * 2 ^ 5, 60, 12, 71, 11, 70, 10, 70, 10);
        bodies(0, 2, 999999, 1 << 30, Integer.MIN_VALUE + 4, 70, 10);
        bodies(1, 2, 999999, Integer.MIN_VALUE, (Integer.MIN_VALUE - 999999 + 2) * 4, 71, 11, 70, 10);
    }

    private static void kindsAbove() {
        says(0, "folds(..) and so on: the body of the STRIP's KIND, or of the next KIND above that has one; super: from "
            + "the KIND above the body's on.");
        for (int kind = 0; kind < 7; kind++) {
            strip(kind, 3, "lr");
        }
        // Which body comes first by folds, opens, lies of each KIND.
        int[][] first = {{10, 11, 12}, {20, 11, 12}, {10, 30, 12}, {10, 40, 12}, {51, 40, 50}, {10, 11, 60},
            {70, 71, 60}};
        for (int kind = 0; kind < 7; kind++) {
            for (int act = 0; act < 3; act++) {
                x.act(kind, act, 100);
                is(x.trace(0), first[kind][act]);
            }
        }
        // opens of the BACK is the CUT's, which calls folds of the BACK again.
        x.act(4, 1, 100);
        is(x.trace(2), 51);
        // super.folds of the LEFT passes the GLASS, which has none.
        x.act(6, 0, 100);
        is(x.trace(1), 10);
    }

    private static void trace() {
        says(0, "THE TRACE: the numbers of the bodies that ran in the latest act(), in the order in which they began; the "
            + "first 20 are kept.");
        is(x.trace(0), NONE);
        strip(6, 3, "lr");
        x.act(0, 2, 1);
        int[] due = {60, 12, 71, 11, 70, 10, 70, 10};
        for (int i = 0; i < 8; i++) {
            is(x.trace(i), due[i]);
        }
        for (int i = 8; i < 22; i++) {
            is(x.trace(i), NONE);
        }
        is(x.trace(-1), NONE);
        x.act(0, 0, 1);
        is(x.trace(0), 70);
        is(x.trace(1), 10);
        is(x.trace(2), NONE);
        // Calls but act() leave it.
        x.crease(0, 1);
        x.crease(0, 0);
        is(x.trace(0), 70);
        x.act(0, 9, 1);
        is(x.trace(0), NONE);
    }

    private static void refusals() {
        says(0, "REFUSALS (the call answers the number; nothing changes but how many there were; the first that fits, in "
            + "this order):");
        strip(0, 0, "lrl");
        x.image();
        strip(3, 5, "rl");
        x.show(0, 1);
        row(1, 1, 0, 1);
        x.act(1, 2, 6);
        // Each call is refused twice, and no() looks at all that can be seen behind each time.
        for (int time = 1; time <= 2; time++) {
            no(-1, () -> x.row(9, 9, -1));
            no(-2, () -> x.set(0, -1, 0));
            no(-3, () -> x.set(2, -1, 0));
            no(-4, () -> x.row(0, 9, -1));
            no(-5, () -> x.turn(1, 2));
            no(-6, () -> x.row(0, 9, 161));
            no(-7, () -> x.row(0, 3, 161));
            no(-11, () -> x.wrong(9, -1));
            no(-12, () -> x.wrong(0, -1));
            no(-13, () -> x.wrong(2, -1));
            no(-14, () -> x.wrong(1, -1));
            no(-15, () -> x.wrong(1, 64));
            no(FAR - 1, () -> x.place(2, 9, 9));
            no(FAR - 5, () -> x.place(1, 9, 9));
            for (int number = 1; number <= 7; number++) {
                is(x.status(10 + number), (number == 5 ? 3 : number == 1 ? 3 : number == 6 || number == 7 ? 1 : 2) * time);
            }
        }
        is(x.restore(), 1);
        is(x.holds(0), NONE);
    }

    private static void nobody() {
        says(0, "-1 NOBODY: no such SHELF, STRIP, KIND.");
        strip(0, 0, "l");
        for (int s : new int[] {-1, 8, Integer.MIN_VALUE, Integer.MAX_VALUE}) {
            no(-1, () -> x.row(s, 0, 1));
            no(-1, () -> x.says(s, 0));
            no(-1, () -> x.read(s));
        }
        for (int strip : new int[] {-1, 1, 8, Integer.MIN_VALUE, Integer.MAX_VALUE}) {
            no(-1, () -> x.creases(strip));
            no(-1, () -> x.turn(strip, 0));
        }
        for (int kind : new int[] {-1, 7, Integer.MIN_VALUE, Integer.MAX_VALUE}) {
            no(-1, () -> x.strip(kind, 0, 7, 1));
            no(-1, () -> x.says(7, kind));
        }
    }

    private static void other() {
        says(0, "-2 OTHER: a SHELF that holds a STRIP where a ROW is wanted, or the other way about, ROWS of two SORTS, a "
            + "STRIP that isn't of the KIND wanted, or one under it.");
        strip(0, 0, "l");
        strip(3, 0, "l");
        x.show(0, 0);
        x.show(1, 1);
        x.row(2, 0, 1);
        x.row(3, 1, 1);
        no(-2, () -> x.set(0, 0, 0));
        no(-2, () -> x.says(2, 0));
        no(-2, () -> x.copy(2, 3, 0, 0, 0));
        no(-2, () -> x.says(0, 1));
        no(-2, () -> x.says(1, 4));
        is(x.says(1, 3), 0);
        is(x.says(1, 0), 1);
    }

    private static void nothing() {
        says(0, "-3 NOTHING: a SHELF that holds NOTHING.");
        no(-3, () -> x.set(0, 0, 0));
        no(-3, () -> x.says(0, 0));
        no(-3, () -> x.read(0));
        x.row(0, 0, 1);
        is(x.set(0, 0, 0), 1);
        x.show(0, NONE);
        no(-3, () -> x.set(0, 0, 0));
    }

    private static void below() {
        says(0, "-4 BELOW: a size below 0.");
        for (int n : new int[] {-1, Integer.MIN_VALUE}) {
            x.row(0, 0, 1);
            no(-4, () -> x.row(0, 0, n));
            no(-4, () -> x.copy(0, 0, 0, 0, n));
            no(-4, () -> x.strip(0, 0, 0, n));
            no(-4, () -> x.mend(0, n));
            no(-4, () -> x.can(0, n));
        }
        is(x.row(0, 0, 0), 1);
        is(x.copy(0, 0, 0, 0, 0), 1);
        is(x.mend(0, 0), 0);
    }

    private static void beyond() {
        says(0, "-5 BEYOND: an element that isn't there; nothing such to be told of.");
        row(0, 1, 2);
        no(-5, () -> x.set(0, 2, 0));
        no(-5, () -> x.set(0, -1, 0));
        no(-5, () -> x.strip(0, 0, 0, 3));
        no(-5, () -> x.stripOf(0, 0));
        no(-5, () -> x.page(1, 2));
        no(-5, () -> x.ends(1, 5, 5, 1));
    }

    private static void wrong() {
        says(0, "-6 WRONG: a number that may not be, a FAULT, what can't be as things stand.");
        no(-6, () -> x.orders(0));
        row(0, 0);
        no(-6, () -> x.strip(0, -1, 0, 1));
        fault("less 0", 5);
        no(-6, () -> x.drop());
        no(-6, () -> x.restore());
        row(0, 0, 0);
        no(-6, () -> x.can(0, 2));
    }

    private static void room() {
        says(0, "-7 ROOM: more than may be.");
        no(-7, () -> x.row(0, 0, 161));
        no(-7, () -> x.row(0, 0, Integer.MAX_VALUE));
        for (int i = 0; i < 8; i++) {
            strip(6, 0, L40);
        }
        no(-7, () -> x.strip(0, 0, 7, 1));
        no(FAR - 7, () -> x.place(0, 100001, 0));
    }

    private static void wholeWord() {
        says(0, "Details. Whether there is room for a word is asked when its letters stand whole: until then the first "
            + "element that is not as it is the FAULT, or the number of elements.");
        for (int i = 0; i < 8; i++) {
            strip(0, 0, "l");
        }
        fault("s", 1);
        fault("stri", 4);
        fault("strix", 4);
        fault("strxp", 3);
        fault("strip", 0);
        fault("strip 0 0 l", 0);
        fault("stripx", 0);
        fault("turn 0 0;stri", 13);
        fault("turn 0 0;strid", 13);
        fault("turn 0 0;strip", 9);
        x.drop();
        fault("strip", 5);
        fault("strip 0 0 l;strip", 12);
    }

    private static void wordsOrder() {
        says(0, "words(): n above 63 (-16) ahead of a LEVEL that is none (-15).");
        x.row(0, 2, 64);
        no(-16, () -> x.words(0, 64, 99));
        no(-16, () -> x.words(0, 64, -2));
        no(-16, () -> x.words(0, 64, NONE));
        no(-16, () -> x.words(0, 64, 0));
        no(-15, () -> x.words(0, 63, 99));
        // Fewer elements go ahead of both.
        no(-15, () -> x.words(0, 65, 99));
    }
}
