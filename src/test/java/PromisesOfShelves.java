/** Promises 1 to 8, clause by clause: what is refused, and in which order. */
final class PromisesOfShelves extends Edge {
    static void run() {
        anew();
        row();
        set();
        copy();
        copyRefused();
        element();
        show();
        holds();
        says();
        saysRefused();
    }

    private static void anew() {
        says(1, "No STRIPS.");
        is(x.status(0), 0);
        is(x.status(1), 0);
        is(x.status(2), 0);
        is(x.status(3), 0);
        for (int number = 11; number <= 17; number++) {
            is(x.status(number), 0);
        }
        is(x.fault(), NONE);
        is(x.trace(0), NONE);
        no(-1, () -> x.creases(0));
        no(-5, () -> x.stripOf(0, 0));
        no(-6, () -> x.drop());
        no(-6, () -> x.restore());
        is(NONE, -1);
    }

    private static void row() {
        says(2, "SHELF s holds a new ROW: 1.");
        is(x.row(0, 0, 0), 1);
        is(x.row(7, 3, 160), 1);
        is(x.holds(0), 100);
        is(x.holds(7), 103);
        x.set(7, 159, 5);
        is(x.row(7, 2, 160), 1);
        is(x.element(7, 159), 0);
        is(x.holds(7), 102);
        strip(0, 0, "l");
        x.show(1, 0);
        is(x.row(1, 1, 3), 1);
        is(x.holds(1), 101);
        is(x.status(0), 1);
        says(2, "-1;");
        no(-1, () -> x.row(8, 0, 1));
        no(-1, () -> x.row(-1, 0, 1));
        no(-1, () -> x.row(8, 4, -1));
        no(-1, () -> x.row(8, 0, 161));
        says(2, "-4;");
        x.row(0, 1, 2);
        no(-4, () -> x.row(0, 0, -1));
        no(-4, () -> x.row(0, 4, -1));
        no(-4, () -> x.row(0, -1, Integer.MIN_VALUE));
        is(x.row(0, 0, 0), 1);
        says(2, "-6 SORT;");
        no(-6, () -> x.row(0, -1, 0));
        no(-6, () -> x.row(0, 4, 0));
        no(-6, () -> x.row(0, 4, 161));
        no(-6, () -> x.row(0, Integer.MIN_VALUE, 161));
        is(x.row(0, 3, 0), 1);
        says(2, "-7 n above 160.");
        no(-7, () -> x.row(0, 0, 161));
        no(-7, () -> x.row(0, 3, Integer.MAX_VALUE));
        is(x.holds(0), NONE);
        is(x.row(0, 0, 160), 1);
    }

    private static void set() {
        says(3, "Element i of the ROW becomes v: 1.");
        x.row(0, 3, 160);
        is(x.set(0, 0, Long.MIN_VALUE), 1);
        is(x.set(0, 159, Long.MAX_VALUE), 1);
        is(x.element(0, 0), Long.MIN_VALUE);
        is(x.element(0, 1), 0);
        is(x.element(0, 158), 0);
        is(x.element(0, 159), Long.MAX_VALUE);
        says(3, "-1;");
        no(-1, () -> x.set(8, 0, 1));
        no(-1, () -> x.set(-1, -1, 1));
        says(3, "-2;");
        strip(0, 0, "l");
        x.show(0, 0);
        no(-2, () -> x.set(0, 0, 1));
        no(-2, () -> x.set(0, -1, 1));
        says(3, "-3;");
        no(-3, () -> x.set(0, 0, 1));
        no(-3, () -> x.set(0, -1, 1));
        says(3, "-5.");
        x.row(0, 0, 2);
        x.row(1, 0, 0);
        no(-5, () -> x.set(0, -1, 1));
        no(-5, () -> x.set(0, 2, 1));
        no(-5, () -> x.set(0, Integer.MIN_VALUE, 1));
        no(-5, () -> x.set(0, Integer.MAX_VALUE, 1));
        no(-5, () -> x.set(1, 0, 1));
        is(x.set(0, 1, 1), 1);
    }

    private static void due(int s, int... elements) {
        for (int i = 0; i < elements.length; i++) {
            is(x.element(s, i), elements[i]);
        }
    }

    private static void copy() {
        says(4, "Elements i, i + 1, .. of the ROW in SHELF p, n of them, come to elements j, j + 1, .. of that in q (as "
            + "they were ahead): 1.");
        row(0, 1, 2, 3, 4, 5);
        row(1, 9, 8, 7);
        is(x.copy(0, 1, 3, 0, 2), 1);
        due(1, 4, 5, 7);
        due(0, 1, 2, 3, 4, 5);
        is(x.copy(0, 0, 0, 1, 4), 1);
        due(0, 1, 1, 2, 3, 4);
        is(x.copy(0, 0, 1, 0, 4), 1);
        due(0, 1, 2, 3, 4, 4);
        is(x.copy(0, 0, 0, 0, 5), 1);
        due(0, 1, 2, 3, 4, 4);
        is(x.copy(1, 0, 0, 2, 3), 1);
        due(0, 1, 2, 4, 5, 7);
        is(x.copy(0, 1, 0, 0, 0), 1);
        is(x.copy(0, 1, 5, 3, 0), 1);
        due(1, 4, 5, 7);
        x.row(2, 3, 160);
        x.row(3, 3, 160);
        for (int i = 0; i < 160; i++) {
            x.set(2, i, i - (1L << 40));
        }
        is(x.copy(2, 3, 0, 0, 160), 1);
        is(x.element(3, 0), -(1L << 40));
        is(x.element(3, 159), 159 - (1L << 40));
    }

    private static void copyRefused() {
        says(4, "-1;");
        no(-1, () -> x.copy(-1, 0, 0, 0, 0));
        no(-1, () -> x.copy(0, 8, 0, 0, 0));
        strip(0, 0, "l");
        x.show(0, 0);
        no(-1, () -> x.copy(0, 8, -1, -1, -1));
        says(4, "-2 also of two SORTS (when both hold something);");
        strip(0, 0, "l");
        x.show(0, 0);
        x.row(1, 0, 2);
        x.row(2, 1, 2);
        no(-2, () -> x.copy(0, 1, 0, 0, 1));
        no(-2, () -> x.copy(1, 0, 0, 0, 1));
        no(-2, () -> x.copy(0, 0, 0, 0, 1));
        no(-2, () -> x.copy(1, 2, 0, 0, 1));
        no(-2, () -> x.copy(2, 1, -1, 9, -1));
        // A STRIP and NOTHING: the STRIP is looked at ahead of NOTHING.
        no(-2, () -> x.copy(0, 5, 0, 0, 1));
        no(-2, () -> x.copy(5, 0, 0, 0, 1));
        says(4, "-3 either;");
        x.row(1, 2, 2);
        x.row(2, 0, 2);
        for (int s = 1; s < 3; s++) {
            int of = s;
            no(-3, () -> x.copy(of, 5, 0, 0, 1));
            no(-3, () -> x.copy(5, of, 0, 0, 1));
        }
        no(-3, () -> x.copy(5, 6, -1, -1, -1));
        says(4, "-4 n;");
        row(0, 1, 2);
        no(-4, () -> x.copy(0, 0, 0, 0, -1));
        no(-4, () -> x.copy(0, 0, -1, 9, Integer.MIN_VALUE));
        is(x.copy(0, 0, 0, 0, 0), 1);
        says(4, "-5 i or j below 0, or an end that isn't there.");
        row(0, 1, 2, 3);
        row(1, 1, 2);
        no(-5, () -> x.copy(0, 1, -1, 0, 1));
        no(-5, () -> x.copy(0, 1, 0, -1, 1));
        no(-5, () -> x.copy(0, 1, -1, 0, 0));
        no(-5, () -> x.copy(0, 1, 0, -1, 0));
        no(-5, () -> x.copy(0, 1, 2, 0, 2));
        no(-5, () -> x.copy(0, 1, 0, 1, 2));
        no(-5, () -> x.copy(0, 1, 4, 0, 0));
        no(-5, () -> x.copy(0, 1, 0, 3, 0));
        no(-5, () -> x.copy(0, 1, Integer.MAX_VALUE, 0, 1));
        no(-5, () -> x.copy(0, 1, 1, 0, Integer.MAX_VALUE));
        no(-5, () -> x.copy(0, 1, 0, Integer.MAX_VALUE, Integer.MAX_VALUE));
        no(-5, () -> x.copy(0, 1, Integer.MIN_VALUE, Integer.MIN_VALUE, Integer.MAX_VALUE));
        is(x.copy(0, 1, 1, 0, 2), 1);
        is(x.copy(0, 1, 2, 1, 1), 1);
    }

    private static void element() {
        says(5, "Element i of the ROW; 0 if there is none (nothing is refused).");
        row(0, 7, 8);
        is(x.element(0, 0), 7);
        is(x.element(0, 1), 8);
        is(x.element(0, 2), 0);
        is(x.element(0, -1), 0);
        is(x.element(0, Integer.MAX_VALUE), 0);
        is(x.element(0, Integer.MIN_VALUE), 0);
        is(x.element(1, 0), 0);
        is(x.element(8, 0), 0);
        is(x.element(-1, 0), 0);
        x.row(0, 2, 1);
        is(x.element(0, 1), 0);
        strip(0, 0, "l");
        x.set(7, 0, 6);
        x.show(7, 0);
        is(x.element(7, 0), 0);
        for (int number = 11; number <= 17; number++) {
            is(x.status(number), 0);
        }
    }

    private static void show() {
        says(6, "SHELF s holds a STRIP, or NOTHING (strip NONE): 1, 0.");
        strip(0, 0, "l");
        strip(0, 0, "l");
        is(x.show(0, 0), 1);
        is(x.show(7, 1), 1);
        is(x.holds(0), 0);
        is(x.holds(7), 1);
        is(x.show(0, 1), 1);
        is(x.holds(0), 1);
        is(x.show(0, NONE), 0);
        is(x.holds(0), NONE);
        is(x.show(0, NONE), 0);
        row(1, 4);
        is(x.show(1, NONE), 0);
        is(x.holds(1), NONE);
        is(x.element(1, 0), 0);
        says(6, "-1.");
        strip(0, 0, "l");
        row(0, 4);
        no(-1, () -> x.show(0, 1));
        no(-1, () -> x.show(0, -2));
        no(-1, () -> x.show(8, 0));
        no(-1, () -> x.show(-1, NONE));
        no(-1, () -> x.show(8, NONE));
        is(x.show(0, 0), 1);
    }

    private static void holds() {
        says(7, "What SHELF s holds: NONE NOTHING, or no such SHELF; a STRIP's number; 100 and the SORT of a ROW.");
        is(x.holds(0), NONE);
        is(x.holds(8), NONE);
        is(x.holds(-1), NONE);
        is(x.holds(Integer.MAX_VALUE), NONE);
        for (int number = 0; number < 8; number++) {
            strip(0, 0, "l");
            x.show(1, number);
            is(x.holds(1), number);
        }
        for (int sort = 0; sort < 4; sort++) {
            x.row(2, sort, 0);
            is(x.holds(2), 100 + sort);
        }
        for (int number = 11; number <= 17; number++) {
            is(x.status(number), 0);
        }
    }

    private static void says() {
        says(8, "What the STRIP in SHELF s, taken for one of a KIND, says: STRIP its FOLDS; SAME its letter; THIRD its "
            + "CREASES modulo 1000; CUT, BACK b modulo 1000; GLASS, LEFT its CREASE 1.");
        strip(0, 5, "llr");
        strip(1, 7, "rrrr");
        strip(1, 8, "llll");
        strip(2, 0, L40.substring(33));
        strip(3, 6345, L40.substring(28));
        strip(4, 999999, L40);
        strip(5, 0, "lr");
        strip(6, 0, "rl");
        int[] folds = {3, 4, 4, 7, 12, 40, 2, 2};
        for (int number = 0; number < 8; number++) {
            x.show(0, number);
            is(x.says(0, 0), folds[number]);
        }
        x.show(0, 1);
        is(x.says(0, 1), 1);
        x.show(0, 2);
        is(x.says(0, 1), 0);
        // 3 to the power of 7 is 2187; 6345 modulo 4095 is 2250.
        x.show(0, 3);
        is(x.says(0, 2), 186);
        x.show(0, 4);
        is(x.says(0, 3), 250);
        x.show(0, 5);
        is(x.says(0, 3), 999);
        is(x.says(0, 4), 999);
        x.show(0, 6);
        is(x.says(0, 5), 0);
        x.show(0, 7);
        is(x.says(0, 5), 1);
        is(x.says(0, 6), 1);
        // The most CREASES of a THIRD end with 442.
        x.drop();
        strip(2, 0, L40.substring(15));
        x.show(0, 7);
        is(x.says(0, 2), 442);
    }

    private static void saysRefused() {
        says(8, "-1 SHELF, KIND;");
        strip(0, 0, "l");
        x.show(0, 0);
        no(-1, () -> x.says(8, 0));
        no(-1, () -> x.says(-1, 0));
        no(-1, () -> x.says(0, 7));
        no(-1, () -> x.says(0, -1));
        no(-1, () -> x.says(7, 7));
        no(-1, () -> x.says(3, 7));
        says(8, "-2 also a STRIP of another KIND;");
        for (int kind = 0; kind < 7; kind++) {
            strip(kind, 0, "l");
        }
        no(-2, () -> x.says(7, 0));
        for (int number = 0; number < 7; number++) {
            x.show(0, number);
            for (int kind = 1; kind < 7; kind++) {
                int as = kind;
                boolean is = kind == number || number == 4 && kind == 3 || number == 6 && kind == 5;
                if (!is) {
                    no(-2, () -> x.says(0, as));
                }
            }
        }
        says(8, "-3.");
        no(-3, () -> x.says(0, 0));
        no(-3, () -> x.says(0, 6));
        strip(0, 0, "l");
        x.show(0, 0);
        x.drop();
        no(-3, () -> x.says(0, 0));
    }
}
