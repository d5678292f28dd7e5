import java.util.function.LongSupplier;

/** Promises 25 to 34, clause by clause: told creases, words, pieces, leaves and pages. */
final class PromisesOfTold extends Edge {
    static void run() {
        words();
        wrong();
        mend();
        judge();
        judgeRefused();
        ends();
        piece();
        pieceRefused();
        can();
        canRefused();
        orders();
        order();
        page();
    }

    private interface Told {
        int of(int s, int n);
    }

    /** SHELF 0: a ROW of 64, 1: a STRIP, 2: NOTHING, 3: a ROW of 1. */
    private static void shelves() {
        strip(0, 0, L40);
        x.row(0, 2, 64);
        x.show(1, 0);
        row(3, 1);
    }

    private static void noShelfOrRow(int promise, int tens, Told call) {
        says(promise, tens == 0 ? "-1;" : "-11;");
        shelves();
        no(-1 - tens, () -> call.of(8, 1));
        no(-1 - tens, () -> call.of(-1, -1));
        says(promise, tens == 0 ? "-2;" : "-12;");
        shelves();
        no(-2 - tens, () -> call.of(1, 1));
        no(-2 - tens, () -> call.of(1, -1));
        says(promise, tens == 0 ? "-3;" : "-13;");
        shelves();
        no(-3 - tens, () -> call.of(2, 1));
        no(-3 - tens, () -> call.of(2, -1));
    }

    private static void belowAndFewer(int tens, Told call) {
        shelves();
        no(-4 - tens, () -> call.of(0, -1));
        no(-4 - tens, () -> call.of(3, Integer.MIN_VALUE));
    }

    private static void words() {
        says(25, "WORDS that fit: how many LEVELS may have either letter (what NONE; NONE if no WORD fits), the letter of "
            + "a LEVEL in the first (what 0 and on).");
        row(0, 2, 0, 2, 1);
        is(x.words(0, 4, NONE), 1);
        is(x.words(0, 4, 0), 0);
        is(x.words(0, 4, 1), 0);
        is(x.words(0, 4, 2), 1);
        is(x.words(0, 3, NONE), 1);
        is(x.words(0, 1, NONE), 1);
        is(x.words(0, 0, NONE), 0);
        row(0, 0, 2, 0);
        is(x.words(0, 3, NONE), NONE);
        is(x.words(0, 2, NONE), 1);
        noShelfOrRow(25, 10, (s, n) -> x.words(s, n, NONE));
        says(25, "-14 n;");
        belowAndFewer(10, (s, n) -> x.words(s, n, 99));
        says(25, "-15 fewer elements, no such LEVEL, no WORD fits (not for NONE);");
        shelves();
        no(-15, () -> x.words(3, 2, NONE));
        no(-15, () -> x.words(3, 64, NONE));
        no(-15, () -> x.words(3, 1, 1));
        no(-15, () -> x.words(3, 1, -2));
        no(-15, () -> x.words(3, 1, Integer.MIN_VALUE));
        no(-15, () -> x.words(3, 1, Integer.MAX_VALUE));
        no(-15, () -> x.words(3, 0, 0));
        // All 0: CREASES 1 and 3 can't both be so.
        no(-15, () -> x.words(0, 3, 0));
        no(-15, () -> x.words(0, 3, 1));
        is(x.words(0, 3, NONE), NONE);
        is(x.words(0, 2, 1), 0);
        says(25, "-16 n above 63 (counted as -1 to -6).");
        shelves();
        no(-16, () -> x.words(0, 64, NONE));
        no(-16, () -> x.words(0, 64, 99));
        is(x.words(0, 63, NONE), NONE);
        x.words(8, 0, NONE);
        x.words(1, 0, NONE);
        x.words(2, 0, NONE);
        x.words(0, -1, NONE);
        x.words(0, 65, NONE);
        for (int number = 1; number <= 6; number++) {
            is(x.status(10 + number), number == 6 ? 2 : 1);
        }
    }

    private static void wrong() {
        says(26, "WRONG; NONE.");
        row(0, 1, 0, 0, 1, 0);
        is(x.wrong(0, 0), NONE);
        is(x.wrong(0, 4), NONE);
        is(x.wrong(0, 5), 5);
        x.set(0, 2, 1);
        is(x.wrong(0, 5), 3);
        is(x.wrong(0, 3), 3);
        is(x.wrong(0, 2), NONE);
        noShelfOrRow(26, 10, (s, n) -> x.wrong(s, n));
        says(26, "-14;");
        belowAndFewer(10, (s, n) -> x.wrong(s, n));
        says(26, "-15 fewer elements;");
        shelves();
        no(-15, () -> x.wrong(3, 2));
        no(-15, () -> x.wrong(3, 64));
        no(-15, () -> x.wrong(0, 65));
        is(x.wrong(3, 1), NONE);
        says(26, "-16.");
        shelves();
        no(-16, () -> x.wrong(0, 64));
        is(x.wrong(0, 63), 3);
    }

    private static void mend() {
        says(27, "MEND.");
        row(0, 1, 0, 0, 1, 0);
        is(x.mend(0, 0), 0);
        is(x.mend(0, 4), 0);
        is(x.mend(0, 5), 1);
        x.row(0, 0, 63);
        // All 0: of each LEVEL but the last half of them.
        is(x.mend(0, 63), 16 + 8 + 4 + 2 + 1);
        is(x.mend(0, 3), 1);
        is(x.mend(0, 2), 0);
        noShelfOrRow(27, 0, (s, n) -> x.mend(s, n));
        says(27, "-4;");
        belowAndFewer(0, (s, n) -> x.mend(s, n));
        says(27, "-5 fewer elements;");
        shelves();
        no(-5, () -> x.mend(3, 2));
        no(-5, () -> x.mend(3, 64));
        no(-5, () -> x.mend(0, 65));
        says(27, "-6.");
        shelves();
        no(-6, () -> x.mend(0, 64));
        is(x.mend(0, 63), 31);
    }

    private static void judge() {
        says(28, "Whether CREASES 1 to n of a STRIP are as told (those seen): the first that isn't; NONE.");
        strip(0, 0, "lrl");
        row(0, 1, 0, 0, 1, 1, 1, 0);
        is(x.judge(0, 0, 0), NONE);
        is(x.judge(0, 0, 7), NONE);
        x.set(0, 6, 1);
        is(x.judge(0, 0, 7), 7);
        is(x.judge(0, 0, 6), NONE);
        x.set(0, 0, 0);
        is(x.judge(0, 0, 7), 1);
        x.set(0, 0, -1);
        is(x.judge(0, 0, 7), 7);
        x.set(0, 6, 2);
        is(x.judge(0, 0, 7), NONE);
        // Of the other KINDS by their own CREASES.
        strip(4, 2, "lrl");
        row(0, 1, 0, 0, 0, 1);
        is(x.judge(1, 0, 5), NONE);
        is(x.judge(0, 0, 5), 4);
    }

    private static void judgeRefused() {
        says(28, "-11 STRIP, SHELF;");
        shelves();
        no(-11, () -> x.judge(1, 0, 1));
        no(-11, () -> x.judge(-1, 1, -1));
        no(-11, () -> x.judge(0, 8, 1));
        no(-11, () -> x.judge(0, -1, -1));
        says(28, "-12;");
        shelves();
        no(-12, () -> x.judge(0, 1, 1));
        no(-12, () -> x.judge(0, 1, -1));
        says(28, "-13;");
        shelves();
        no(-13, () -> x.judge(0, 2, 1));
        no(-13, () -> x.judge(0, 2, -1));
        says(28, "-14;");
        belowAndFewer(10, (s, n) -> x.judge(0, s, n));
        says(28, "-15 fewer elements, CREASES;");
        shelves();
        strip(0, 0, "lrl");
        no(-15, () -> x.judge(0, 3, 2));
        no(-15, () -> x.judge(0, 3, 64));
        no(-15, () -> x.judge(0, 0, 65));
        no(-15, () -> x.judge(1, 0, 8));
        no(-15, () -> x.judge(1, 0, 64));
        is(x.judge(1, 0, 7), 1);
        says(28, "-16 n above 63.");
        shelves();
        no(-16, () -> x.judge(0, 0, 64));
        is(x.judge(0, 0, 63), 1);
    }

    private static void ends() {
        says(29, "ENDS: how many (what 0), the first (1).");
        is(x.ends(3, 2, 2, 0), 3);
        is(x.ends(3, 2, 2, 1), 3);
        is(x.ends(3, -2, 2, 0), 1);
        is(x.ends(3, -2, 2, 1), 7);
        is(x.ends(3, -2, -2, 1), 0);
        is(x.ends(3, 0, 0, 0), 0);
        says(29, "-5 another what, none (not for 0);");
        no(-5, () -> x.ends(3, 0, 0, 1));
        no(-5, () -> x.ends(10, 32, 32, 1));
        no(-5, () -> x.ends(3, 2, 2, 2));
        no(-5, () -> x.ends(3, 2, 2, -1));
        no(-5, () -> x.ends(0, 2, 2, 2));
        no(-5, () -> x.ends(11, 2, 2, Integer.MIN_VALUE));
        says(29, "-6 f.");
        no(-6, () -> x.ends(0, 1, 0, 0));
        no(-6, () -> x.ends(0, 1, 0, 1));
        no(-6, () -> x.ends(11, 32, 32, 0));
        no(-6, () -> x.ends(Integer.MIN_VALUE, 0, 0, 0));
        no(-6, () -> x.ends(Integer.MAX_VALUE, 0, 0, 1));
        is(x.ends(1, 1, 1, 0), 1);
        is(x.ends(10, 0, 32, 0), 256);
    }

    private static void piece() {
        says(30, "PIECE: how often (what 0), from which CREASE on first (1).");
        // 1 0 0 1 1 1 0
        strip(0, 0, "lrl");
        row(0, 0, 1, 1);
        is(x.piece(0, 0, 3, 0), 1);
        is(x.piece(0, 0, 3, 1), 3);
        is(x.piece(0, 0, 1, 0), 3);
        is(x.piece(0, 0, 1, 1), 2);
        row(0, 2, 0);
        is(x.piece(0, 0, 2, 0), 3);
        is(x.piece(0, 0, 2, 1), 1);
        row(0, 0, 2);
        // The last 0 has none behind it.
        is(x.piece(0, 0, 2, 0), 2);
        // Of the other KINDS, too: 0 1 1 1 0.
        strip(3, 2, "lrl");
        row(0, 1, 0);
        is(x.piece(1, 0, 2, 0), 1);
        is(x.piece(1, 0, 2, 1), 4);
    }

    private static void pieceRefused() {
        says(30, "-1;");
        shelves();
        no(-1, () -> x.piece(1, 0, 1, 0));
        no(-1, () -> x.piece(-1, 1, -1, 2));
        no(-1, () -> x.piece(0, 8, 1, 0));
        no(-1, () -> x.piece(0, -1, -1, 2));
        says(30, "-2;");
        shelves();
        no(-2, () -> x.piece(0, 1, 1, 0));
        no(-2, () -> x.piece(0, 1, -1, 2));
        says(30, "-3;");
        shelves();
        no(-3, () -> x.piece(0, 2, 1, 0));
        no(-3, () -> x.piece(0, 2, -1, 2));
        says(30, "-4;");
        belowAndFewer(0, (s, n) -> x.piece(0, s, n, 2));
        says(30, "-5 fewer elements, another what, nowhere (not for 0);");
        shelves();
        strip(0, 0, "lrl");
        no(-5, () -> x.piece(0, 3, 2, 0));
        no(-5, () -> x.piece(0, 3, 41, 0));
        no(-5, () -> x.piece(0, 0, 1, 2));
        no(-5, () -> x.piece(0, 0, 1, -1));
        no(-5, () -> x.piece(0, 0, 0, 2));
        no(-5, () -> x.piece(0, 0, 41, -1));
        no(-5, () -> x.piece(1, 0, 3, 1));
        is(x.piece(1, 0, 3, 0), 0);
        is(x.piece(1, 0, 2, 1), 2);
        says(30, "-6 n not 1 to 40.");
        shelves();
        no(-6, () -> x.piece(0, 0, 0, 0));
        no(-6, () -> x.piece(0, 0, 0, 1));
        no(-6, () -> x.piece(0, 0, 41, 0));
        no(-6, () -> x.piece(0, 0, 64, 0));
        is(x.piece(0, 0, 40, 0), 0);
        is(x.piece(0, 3, 1, 1), 1);
    }

    private static void can() {
        says(31, "Whether the ORDER of n leaves in SHELF s (elements 0 to n less 1, each once) CAN be: 1, 0.");
        row(0, 0, 1, 3, 2);
        is(x.can(0, 1), 1);
        is(x.can(0, 2), 1);
        is(x.can(0, 4), 1);
        row(0, 0, 2, 1, 3);
        is(x.can(0, 4), 0);
        // What stands behind the first n is nothing to it.
        row(0, 1, 0, 2, 99, -1);
        is(x.can(0, 3), 1);
        is(x.can(0, 2), 1);
        // How many of all CAN be is ORDERS.
        int count = 0;
        for (int code = 0; code < 256; code++) {
            row(1, code & 3, code >> 2 & 3, code >> 4 & 3, code >> 6);
            count += x.can(1, 4) == 1 ? 1 : 0;
        }
        is(count, 16);
    }

    private static void canRefused() {
        noShelfOrRow(31, 0, (s, n) -> x.can(s, n));
        says(31, "-4 n;");
        belowAndFewer(0, (s, n) -> x.can(s, n));
        says(31, "-5 fewer elements;");
        row(0, 0, 1);
        x.row(1, 0, 0);
        no(-5, () -> x.can(0, 3));
        no(-5, () -> x.can(0, 9));
        no(-5, () -> x.can(1, 1));
        no(-5, () -> x.can(0, Integer.MAX_VALUE));
        is(x.can(0, 2), 1);
        says(31, "-6 n not 1 to 8, no ORDER.");
        row(0, 0, 1, 2, 3, 4, 5, 6, 7, 8);
        no(-6, () -> x.can(0, 0));
        no(-6, () -> x.can(0, 9));
        is(x.can(0, 8), 1);
        row(0, 0, 0);
        no(-6, () -> x.can(0, 2));
        row(0, 1, 1);
        no(-6, () -> x.can(0, 2));
        row(0, 0, 2);
        no(-6, () -> x.can(0, 2));
        row(0, -1, 0);
        no(-6, () -> x.can(0, 2));
        row(0, 32, 0);
        no(-6, () -> x.can(0, 2));
        row(0, 1);
        no(-6, () -> x.can(0, 1));
        // No ORDER is so even if its first leaves can't be.
        row(0, 0, 2, 1, 3, 3);
        no(-6, () -> x.can(0, 5));
    }

    private static void orders() {
        says(32, "ORDERS of n leaves.");
        int[] due = {1, 2, 6, 16, 50, 144, 462, 1392};
        for (int n = 8; n >= 1; n--) {
            is(x.orders(n), due[n - 1]);
        }
        for (int n = 1; n <= 8; n++) {
            is(x.orders(n), due[n - 1]);
        }
        says(32, "-6.");
        for (int n : new int[] {0, -1, 9, Integer.MIN_VALUE, Integer.MAX_VALUE}) {
            no(-6, () -> x.orders(n));
        }
    }

    private static void order() {
        says(33, "The leaf at a place of the i-th of them.");
        is(x.order(1, 0, 0), 0);
        int[][] four = {{0, 1, 2, 3}, {0, 1, 3, 2}, {0, 3, 2, 1}, {1, 0, 2, 3}, {1, 0, 3, 2}, {1, 2, 3, 0},
            {1, 3, 2, 0}, {2, 0, 1, 3}};
        // By rows, those of 4 leaves of which folds 0 1 and 2 3 don't cross: tried one by one.
        int i = 0;
        for (int code = 0; code < 256; code++) {
            row(0, code >> 6, code >> 4 & 3, code >> 2 & 3, code & 3);
            if (x.can(0, 4) == 1) {
                for (int place = 0; place < 4; place++) {
                    is(x.order(4, i, place), x.element(0, place));
                }
                i++;
            }
        }
        is(i, 16);
        for (int place = 0; place < 4; place++) {
            is(x.order(4, 0, place), four[0][place]);
            is(x.order(4, 1, place), four[1][place]);
        }
        orderRefused();
    }

    private static void orderRefused() {
        says(33, "-5 no such;");
        int[] orders = {1, 2, 6, 16, 50, 144, 462, 1392};
        for (int n = 1; n <= 8; n++) {
            int of = n;
            is(x.order(n, orders[n - 1] - 1, n - 1), 0);
            no(-5, () -> x.order(of, orders[of - 1], 0));
            no(-5, () -> x.order(of, 0, of));
            no(-5, () -> x.order(of, -1, 0));
            no(-5, () -> x.order(of, 0, -1));
        }
        no(-5, () -> x.order(8, Integer.MAX_VALUE, 0));
        no(-5, () -> x.order(8, 0, Integer.MAX_VALUE));
        no(-5, () -> x.order(0, -1, 0));
        no(-5, () -> x.order(9, 0, -1));
        says(33, "-6 n.");
        for (int n : new int[] {0, -1, 9, Integer.MIN_VALUE, Integer.MAX_VALUE}) {
            no(-6, () -> x.order(n, 0, 0));
        }
    }

    private static void page() {
        says(34, "PAGES: the leaf at a place.");
        int[] due = {1, 6, 5, 2, 3, 4, 7, 0};
        for (int place = 0; place < 8; place++) {
            is(x.page(3, place), due[place]);
        }
        is(x.page(1, 0), 1);
        is(x.page(1, 1), 0);
        // Each leaf is at one place.
        for (int f = 1; f <= 6; f++) {
            long seen = 0;
            for (int place = 0; place < 1 << f; place++) {
                seen |= 1L << x.page(f, place);
            }
            is(seen, f == 6 ? -1 : (1L << (1 << f)) - 1);
        }
        says(34, "-5;");
        for (int f = 1; f <= 6; f++) {
            int of = f;
            no(-5, () -> x.page(of, 1 << of));
            no(-5, () -> x.page(of, -1));
            is(x.page(of, (1 << of) - 1), 0);
        }
        no(-5, () -> x.page(6, Integer.MAX_VALUE));
        no(-5, () -> x.page(0, -1));
        no(-5, () -> x.page(7, Integer.MIN_VALUE));
        says(34, "-6 f.");
        for (int f : new int[] {0, -1, 7, 32, Integer.MIN_VALUE, Integer.MAX_VALUE}) {
            no(-6, () -> x.page(f, 0));
        }
    }
}
