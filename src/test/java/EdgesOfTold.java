import java.util.ArrayList;
import java.util.HashMap;
import java.util.List;
import java.util.Map;

/** The terms: TOLD creases, WORDS, WRONG, MEND, ENDS, PIECE, LEAVES, ORDERS, PAGES. */
final class EdgesOfTold extends Edge {
    static void run() {
        notSeen();
        firstOfThem();
        words();
        wrong();
        mend();
        ends();
        piece();
        leaves();
        canBe();
        orders();
        pages();
    }

    private static void notSeen() {
        says(0, "TOLD creases: a ROW, elements 0, 1, others not seen (they may be either);");
        strip(0, 0, "lrl");
        for (int unseen : new int[] {2, -1, 3, 256, Integer.MAX_VALUE, Integer.MIN_VALUE}) {
            row(0, 1, unseen, unseen);
            is(x.words(0, 3, NONE), 1);
            is(x.wrong(0, 3), NONE);
            is(x.mend(0, 3), 0);
            is(x.judge(0, 0, 3), NONE);
            is(x.piece(0, 0, 3, 0), 3);
        }
        // As ints: 2 to the power of 32 is 0, and 1 more is 1.
        x.row(0, 3, 2);
        x.set(0, 0, 1L << 32);
        x.set(0, 1, (1L << 32) + 1);
        is(x.words(0, 2, 0), 0);
        is(x.words(0, 2, 1), 1);
        is(x.judge(0, 0, 2), 1);
        x.set(0, 0, 1L << 31);
        is(x.judge(0, 0, 2), 2);
        // As bytes 255 is -1, and 257 is 1.
        x.row(0, 0, 1);
        x.set(0, 0, 257);
        is(x.words(0, 1, 0), 1);
        x.set(0, 0, 255);
        is(x.words(0, 1, NONE), 1);
    }

    private static void firstOfThem() {
        says(0, "the first n of them are CREASES 1 to n (n 0 to 63).");
        row(0, 1, 0, 1, 0);
        is(x.wrong(0, 0), NONE);
        is(x.wrong(0, 2), NONE);
        is(x.wrong(0, 3), 3);
        is(x.words(0, 0, NONE), 0);
        is(x.mend(0, 0), 0);
        x.row(1, 0, 64);
        for (int i = 0; i < 64; i++) {
            x.set(1, i, 2);
        }
        is(x.words(1, 63, NONE), 6);
        is(x.wrong(1, 63), NONE);
        is(x.mend(1, 63), 0);
        no(-16, () -> x.words(1, 64, NONE));
        no(-16, () -> x.wrong(1, 64));
        no(-6, () -> x.mend(1, 64));
        strip(0, 0, L40);
        is(x.judge(0, 1, 63), NONE);
        no(-16, () -> x.judge(0, 1, 64));
        no(-14, () -> x.words(1, -1, NONE));
    }

    private static void words() {
        says(0, "WORDS that fit (of as many LEVELS as CREASES 1 to n reach): how many; the letters of the first one "
            + "(by LEVELS, 0 ahead of 1);");
        x.row(0, 0, 63);
        for (int i = 0; i < 63; i++) {
            x.set(0, i, 2);
        }
        int[] sizes = {0, 1, 2, 3, 4, 7, 8, 15, 16, 31, 32, 63};
        int[] levels = {0, 1, 2, 2, 3, 3, 4, 4, 5, 5, 6, 6};
        for (int i = 0; i < sizes.length; i++) {
            int n = sizes[i];
            int level = levels[i];
            is(x.words(0, n, NONE), level);
            no(-15, () -> x.words(0, n, level));
            for (int under = 0; under < level; under++) {
                is(x.words(0, n, under), 0);
            }
        }
        // CREASE 48 is 3 times 16: the other one than LEVEL 4. CREASE 40 is 5 times 8: as LEVEL 3.
        x.set(0, 47, 0);
        x.set(0, 39, 1);
        is(x.words(0, 63, NONE), 4);
        int[] first = {0, 0, 0, 1, 1, 0};
        for (int level = 0; level < 6; level++) {
            is(x.words(0, 63, level), first[level]);
        }
        is(x.words(0, 47, 4), 0);
        is(x.words(0, 47, NONE), 5);
        x.set(0, 15, 0);
        is(x.words(0, 47, 4), 0);
        is(x.words(0, 48, NONE), NONE);
    }

    private static void wrong() {
        says(0, "WRONG: the first CREASE with which no WORD fits; NONE.");
        row(0, 1, 1, 0, 1, 1, 0, 0, 1);
        is(x.wrong(0, 8), NONE);
        x.set(0, 6, 1);
        is(x.wrong(0, 8), 7);
        is(x.wrong(0, 7), 7);
        is(x.wrong(0, 6), NONE);
        x.set(0, 4, 0);
        is(x.wrong(0, 8), 5);
        x.set(0, 5, 1);
        is(x.wrong(0, 8), 5);
        x.set(0, 2, 1);
        is(x.wrong(0, 8), 3);
        // Not seen, the first of a LEVEL leaves the next ones to tell it.
        x.set(0, 0, 2);
        is(x.wrong(0, 8), 6);
    }

    private static void mend() {
        says(0, "MEND: the fewest of those seen to be turned so that some WORD fits.");
        row(0, 1, 1, 0, 1, 1, 0, 0, 1);
        is(x.mend(0, 8), 0);
        x.set(0, 0, 0);
        is(x.mend(0, 1), 0);
        is(x.mend(0, 8), 1);
        x.set(0, 2, 1);
        is(x.mend(0, 3), 0);
        is(x.mend(0, 8), 2);
        // Three of LEVEL 0 say the other one by now: the fourth is to be turned.
        x.set(0, 4, 0);
        is(x.mend(0, 8), 1);
        x.set(0, 6, 1);
        is(x.mend(0, 8), 0);
        x.set(0, 5, 1);
        is(x.mend(0, 8), 1);
        x.set(0, 1, 7);
        is(x.mend(0, 8), 0);
    }

    private static void ends() {
        says(0, "ENDS: WORDS of f LEVELS (1 to 10) by which a STRIP's last PLACE is (x, y): how many; the first one as "
            + "bits (LEVEL 0 lowest; first: the least such number).");
        is(x.ends(1, 1, 1, 0), 1);
        is(x.ends(1, 1, 1, 1), 1);
        is(x.ends(1, 1, -1, 1), 0);
        is(x.ends(1, 2, 0, 0), 0);
        is(x.ends(2, 0, 2, 1), 3);
        is(x.ends(2, 2, 0, 0), 2);
        is(x.ends(2, 2, 0, 1), 1);
        is(x.ends(2, 0, -2, 1), 0);
        // Of 10: 2, 6 or 10 letters l.
        is(x.ends(10, 0, 32, 0), 45 + 210 + 1);
        is(x.ends(10, 0, 32, 1), 3);
        // 0, 4 or 8 of them.
        is(x.ends(10, 0, -32, 0), 1 + 210 + 45);
        is(x.ends(10, 0, -32, 1), 0);
        is(x.ends(10, 32, 0, 1), 1);
        is(x.ends(10, -32, 0, 1), 7);
        is(x.ends(10, Integer.MIN_VALUE, Integer.MAX_VALUE, 0), 0);
        no(-6, () -> x.ends(0, 1, 0, 0));
        no(-6, () -> x.ends(11, 0, 0, 0));
        for (int f = 1; f <= 6; f++) {
            endsOfStrips(f);
        }
    }

    /** As the STRIPS by all WORDS of f LEVELS end, lesser numbers ahead. */
    private static void endsOfStrips(int f) {
        Map<List<Long>, List<Integer>> words = new HashMap<>();
        for (int word = 0; word < 1 << f; word++) {
            x = new FoldedInHalf();
            StringBuilder letters = new StringBuilder();
            for (int level = 0; level < f; level++) {
                letters.append((word >> level & 1) == 1 ? 'l' : 'r');
            }
            strip(0, 0, letters.toString());
            List<Long> end = List.of(x.place(0, 1L << f, 0), x.place(0, 1L << f, 1));
            words.computeIfAbsent(end, any -> new ArrayList<>()).add(word);
        }
        for (Map.Entry<List<Long>, List<Integer>> one : words.entrySet()) {
            int endX = one.getKey().get(0).intValue();
            int endY = one.getKey().get(1).intValue();
            is(x.ends(f, endX, endY, 0), one.getValue().size());
            is(x.ends(f, endX, endY, 1), one.getValue().get(0));
        }
    }

    private static void piece() {
        says(0, "PIECE: where in CREASES 1 to 4000 (no more than there are) of a STRIP told ones (n 1 to 40; those not "
            + "seen stand for either) stand one after the other: how often; from which CREASE on first.");
        // 1 0 0 1 1 1 0
        strip(0, 0, "lrl");
        row(0, 1, 1, 0);
        is(x.piece(0, 0, 1, 0), 4);
        is(x.piece(0, 0, 1, 1), 1);
        is(x.piece(0, 0, 2, 0), 2);
        is(x.piece(0, 0, 2, 1), 4);
        is(x.piece(0, 0, 3, 0), 1);
        is(x.piece(0, 0, 3, 1), 5);
        row(0, 1, 9, 1);
        is(x.piece(0, 0, 3, 0), 1);
        is(x.piece(0, 0, 3, 1), 4);
        row(0, 9, 9, 9, 9, 9, 9, 9, 9);
        is(x.piece(0, 0, 7, 0), 1);
        is(x.piece(0, 0, 7, 1), 1);
        is(x.piece(0, 0, 8, 0), 0);
        atTheFarEnd();
    }

    private static void atTheFarEnd() {
        strip(0, 0, L40);
        x.row(1, 0, 41);
        for (int i = 0; i < 41; i++) {
            x.set(1, i, 2);
        }
        is(x.piece(1, 1, 1, 0), 4000);
        is(x.piece(1, 1, 2, 0), 3999);
        is(x.piece(1, 1, 40, 0), 3961);
        no(-6, () -> x.piece(1, 1, 41, 0));
        no(-6, () -> x.piece(1, 1, 0, 0));
        // A STRIP of 12 LEVELS has 4095: the last ones are not looked at.
        strip(0, 0, L40.substring(28));
        is(x.piece(2, 1, 40, 0), 3961);
        strip(0, 0, L40.substring(29));
        is(x.piece(3, 1, 1, 0), 2047);
        is(x.piece(3, 1, 40, 0), 2008);
    }

    private static void leaves() {
        says(0, "LEAVES: n of them (1 to 8) in a row, folded to one: an ORDER: which leaf is at which place from above.");
        row(0, 0, 1, 2, 3, 4, 5, 6, 7, 8);
        is(x.can(0, 1), 1);
        is(x.can(0, 8), 1);
        no(-6, () -> x.can(0, 0));
        no(-6, () -> x.can(0, 9));
        is(x.orders(1), 1);
        is(x.orders(8), 1392);
        no(-6, () -> x.orders(0));
        no(-6, () -> x.orders(9));
        is(x.order(1, 0, 0), 0);
        // The last ORDER of 8 has leaf 7 on top.
        for (int place = 0; place < 8; place++) {
            is(x.order(8, 0, place), place);
            is(x.order(8, 1391, place), 7 - place);
        }
    }

    private static void canBe() {
        says(0, "It CAN be, if no two folds cross: of folds between leaves i and i + 1, i even, no two of which one has "
            + "just one end between the ends of the other, and so for i odd.");
        int[][] can = {{0}, {0, 1}, {1, 0}, {0, 2, 1}, {1, 2, 0}, {0, 1, 3, 2}, {0, 3, 2, 1}, {1, 0, 2, 3},
            {2, 3, 1, 0}, {1, 0, 3, 2}, {7, 6, 5, 4, 3, 2, 1, 0}};
        for (int[] order : can) {
            row(0, order);
            is(x.can(0, order.length), 1);
        }
        // Folds 0 1 and 2 3 cross.
        int[][] not = {{0, 2, 1, 3}, {2, 0, 3, 1}, {0, 3, 1, 2}, {1, 3, 0, 2}};
        for (int[] order : not) {
            row(0, order);
            is(x.can(0, order.length), 0);
            is(x.can(0, 1), order[0] == 0 ? 1 : -6);
        }
        // Folds 1 2 and 3 4 cross, 0 1 and 2 3 don't.
        row(0, 0, 1, 3, 2, 4);
        is(x.can(0, 5), 0);
        // Folds 0 1 and 3 4 lie across, but one is even and the other odd.
        row(0, 0, 3, 2, 1, 4);
        is(x.can(0, 5), 1);
        // Folds 4 5 and 6 7 cross, the last ones of all.
        row(0, 0, 1, 2, 3, 4, 6, 5, 7);
        is(x.can(0, 8), 0);
    }

    private static void orders() {
        says(0, "ORDERS: how many CAN be; the i-th of them by rows.");
        int[] due = {1, 2, 6, 16, 50, 144, 462, 1392};
        for (int n = 1; n <= 8; n++) {
            is(x.orders(n), due[n - 1]);
        }
        int[][] three = {{0, 1, 2}, {0, 2, 1}, {1, 0, 2}, {1, 2, 0}, {2, 0, 1}, {2, 1, 0}};
        for (int i = 0; i < 6; i++) {
            for (int place = 0; place < 3; place++) {
                is(x.order(3, i, place), three[i][place]);
            }
        }
        no(-5, () -> x.order(3, 6, 0));
        no(-5, () -> x.order(3, -1, 0));
    }

    private static void pages() {
        says(0, "PAGES: leaves 0 to 2 to the power of f less 1 (f 1 to 6) in a row, folded in half f times, the right half "
            + "turned over onto the left each time: which leaf is at place i from above.");
        // 0 to 7 in half: 7 0, 6 1, 5 2, 4 3; again: 3 4 7 0, 2 5 6 1; again.
        int[][] due = {{1, 0}, {1, 2, 3, 0}, {1, 6, 5, 2, 3, 4, 7, 0}};
        for (int f = 1; f <= 3; f++) {
            for (int place = 0; place < 1 << f; place++) {
                is(x.page(f, place), due[f - 1][place]);
            }
        }
        // The last leaf is folded over onto the first, and from then on lies just above it.
        for (int f = 1; f <= 6; f++) {
            int last = (1 << f) - 1;
            is(x.page(f, last), 0);
            is(x.page(f, last - 1), last);
        }
        no(-6, () -> x.page(0, 0));
        no(-6, () -> x.page(7, 0));
        no(-5, () -> x.page(6, 64));
        no(-5, () -> x.page(6, -1));
    }
}
