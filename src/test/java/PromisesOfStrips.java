/** Promises 9 to 17, clause by clause: STRIPS made, told, turned, read; their CREASES, WAYS and PLACES. */
final class PromisesOfStrips extends Edge {
    static void run() {
        strip();
        stripRefused();
        stripOf();
        turn();
        read();
        fault();
        creases();
        crease();
        way();
        place();
        placeRefused();
    }

    private static void strip() {
        says(9, "A STRIP by the first n elements of the ROW in SHELF s (its WORD, by their lowest bits): the number.");
        x.row(0, 3, 160);
        long[] elements = {3, -2, Long.MIN_VALUE, Long.MAX_VALUE, 1L << 32, (1L << 32) + 1, -1, 0};
        int[] letters = {1, 0, 0, 1, 0, 1, 1, 0};
        for (int i = 0; i < elements.length; i++) {
            x.set(0, i, elements[i]);
        }
        is(x.strip(0, 0, 0, 8), 0);
        for (int level = 0; level < 8; level++) {
            is(x.stripOf(0, 10 + level), letters[level]);
        }
        is(x.strip(3, 12, 0, 2), 1);
        is(x.stripOf(1, 0), 3);
        is(x.stripOf(1, 1), 12);
        is(x.stripOf(1, 2), 2);
        // What stands behind the first n is no letter of it.
        int ones = x.status(2);
        is(x.strip(0, 0, 0, 3), 2);
        is(x.status(2), ones + 1);
        x.drop();
        is(x.strip(0, 0, 0, 40), 2);
        // Its WORD is kept, whatever becomes of the ROW.
        x.set(0, 0, 0);
        x.row(0, 0, 1);
        is(x.stripOf(0, 10), 1);
        x.row(1, 0, 1);
        x.set(1, 0, 255);
        is(x.strip(0, 0, 1, 1), 3);
        is(x.stripOf(3, 10), 1);
    }

    private static void stripRefused() {
        says(9, "-1 SHELF, KIND;");
        row(0, 1);
        no(-1, () -> x.strip(0, 0, 8, 1));
        no(-1, () -> x.strip(0, 0, -1, 1));
        no(-1, () -> x.strip(7, 0, 0, 1));
        no(-1, () -> x.strip(-1, 0, 0, 1));
        no(-1, () -> x.strip(7, -1, 5, -1));
        says(9, "-2;");
        strip(0, 0, "l");
        x.show(0, 0);
        no(-2, () -> x.strip(0, 0, 0, 1));
        no(-2, () -> x.strip(0, -1, 0, -1));
        says(9, "-3;");
        no(-3, () -> x.strip(0, 0, 0, 1));
        no(-3, () -> x.strip(0, -1, 0, -1));
        says(9, "-4 n;");
        row(0, 1);
        no(-4, () -> x.strip(0, 0, 0, -1));
        no(-4, () -> x.strip(0, -1, 0, Integer.MIN_VALUE));
        says(9, "-5 fewer elements;");
        row(0, 1, 1);
        no(-5, () -> x.strip(0, 0, 0, 3));
        no(-5, () -> x.strip(0, 0, 0, 41));
        no(-5, () -> x.strip(0, -1, 0, 3));
        no(-5, () -> x.strip(0, -1, 0, Integer.MAX_VALUE));
        is(x.strip(0, 0, 0, 2), 0);
        says(9, "-6 n not 1 to 40 (THIRD 25), a;");
        x.row(0, 0, 160);
        for (int kind = 0; kind < 7; kind++) {
            int of = kind;
            no(-6, () -> x.strip(of, 0, 0, 0));
            no(-6, () -> x.strip(of, 0, 0, of == 2 ? 26 : 41));
            no(-6, () -> x.strip(of, -1, 0, 1));
            no(-6, () -> x.strip(of, 1000000, 0, 1));
            is(x.strip(kind, 999999, 0, kind == 2 ? 25 : 40), kind);
        }
        no(-6, () -> x.strip(0, 0, 0, 160));
        strip(0, 0, "l");
        no(-6, () -> x.strip(0, 1000000, 0, 1));
        no(-6, () -> x.strip(0, 0, 0, 41));
        says(9, "-7.");
        for (int i = 0; i < 8; i++) {
            strip(0, 0, "l");
        }
        no(-7, () -> x.strip(0, 0, 7, 1));
        no(-7, () -> x.strip(6, 999999, 7, 1));
        x.drop();
        is(x.strip(0, 0, 7, 1), 7);
        no(-7, () -> x.strip(0, 0, 7, 1));
    }

    private static void stripOf() {
        says(10, "Of a STRIP: 0 KIND, 1 a, 2 FOLDS, 10 and a LEVEL: its letter.");
        for (int kind = 0; kind < 7; kind++) {
            strip(kind, kind * 166666, "lrl");
            is(x.stripOf(kind, 0), kind);
            is(x.stripOf(kind, 1), kind * 166666);
            is(x.stripOf(kind, 2), 3);
            is(x.stripOf(kind, 10), 1);
            is(x.stripOf(kind, 11), 0);
            is(x.stripOf(kind, 12), 1);
        }
        says(10, "-5: no such one, another what.");
        strip(0, 0, "lr");
        for (int what : new int[] {-1, 3, 9, 12, 50, Integer.MIN_VALUE, Integer.MAX_VALUE}) {
            no(-5, () -> x.stripOf(0, what));
        }
        for (int number : new int[] {-1, 1, 8, Integer.MIN_VALUE, Integer.MAX_VALUE}) {
            no(-5, () -> x.stripOf(number, 0));
            no(-5, () -> x.stripOf(number, 3));
        }
        strip(0, 0, L40);
        is(x.stripOf(1, 49), 1);
        no(-5, () -> x.stripOf(1, 50));
    }

    private static void turn() {
        says(11, "The letter of a LEVEL becomes the other one: what it was.");
        for (int kind = 0; kind < 7; kind++) {
            strip(kind, 9, "lrl");
            is(x.turn(kind, 0), 1);
            is(x.turn(kind, 1), 0);
            is(x.stripOf(kind, 10), 0);
            is(x.stripOf(kind, 11), 1);
            is(x.stripOf(kind, 12), 1);
            is(x.turn(kind, 0), 0);
            is(x.stripOf(kind, 10), 1);
            is(x.stripOf(kind, 0), kind);
            is(x.stripOf(kind, 1), 9);
            is(x.stripOf(kind, 2), 3);
        }
        strip(0, 0, L40);
        is(x.turn(7, 39), 1);
        is(x.turn(7, 39), 0);
        says(11, "-1;");
        strip(0, 0, "l");
        no(-1, () -> x.turn(1, 0));
        no(-1, () -> x.turn(-1, 0));
        no(-1, () -> x.turn(8, 99));
        says(11, "-5.");
        strip(0, 0, "lr");
        no(-5, () -> x.turn(0, 2));
        no(-5, () -> x.turn(0, -1));
        no(-5, () -> x.turn(0, 64));
        no(-5, () -> x.turn(0, Integer.MIN_VALUE));
        no(-5, () -> x.turn(0, Integer.MAX_VALUE));
    }

    private static void read() {
        says(12, "A SET of STRIPS by the ROW in SHELF s: how many ITEMS.");
        reads("strip 0 0 l", 1);
        reads("strip 0 0 l;strip 1 1 r;turn 0 0", 3);
        is(x.status(0), 3);
        // The ROW stays as it is, and is read once more.
        is(x.element(6, 0), 's');
        is(x.read(6), 3);
        is(x.status(0), 5);
        for (int sort = 1; sort < 4; sort++) {
            String text = "turn 0 0";
            x.row(0, sort, text.length());
            for (int i = 0; i < text.length(); i++) {
                x.set(0, i, text.charAt(i) + (sort == 3 ? 7L << 32 : 0));
            }
            is(x.read(0), 1);
        }
        says(12, "-1;");
        no(-1, () -> x.read(8));
        no(-1, () -> x.read(-1));
        says(12, "-2;");
        strip(0, 0, "l");
        x.show(0, 0);
        no(-2, () -> x.read(0));
        says(12, "-3;");
        no(-3, () -> x.read(0));
        says(12, "-6 a FAULT.");
        fault("", 0);
        fault("less 0", 5);
        fault("strip 0 0 l;", 12);
        is(x.status(0), 0);
        reads("strip 0 0 l", 1);
    }

    private static void fault() {
        says(13, "The FAULT of the latest read() that came to a ROW; NONE: there was none, or none yet.");
        is(x.fault(), NONE);
        no(-3, () -> x.read(0));
        no(-1, () -> x.read(8));
        is(x.fault(), NONE);
        fault("strop", 3);
        strip(0, 0, "l");
        x.show(1, 0);
        // These came to no ROW.
        no(-3, () -> x.read(0));
        no(-1, () -> x.read(8));
        no(-2, () -> x.read(1));
        is(x.fault(), 3);
        x.image();
        x.drop();
        x.restore();
        x.row(6, 0, 1);
        is(x.fault(), 3);
        fault("", 0);
        reads("turn 0 0", 1);
        is(x.fault(), NONE);
    }

    private static void creases() {
        says(14, "How many CREASES.");
        strip(0, 0, L40);
        strip(2, 0, L40.substring(15));
        strip(3, 999999, L40);
        strip(4, 6, "lll");
        strip(0, 0, "l");
        is(x.creases(0), 1099511627775L);
        is(x.creases(1), 847288609442L);
        is(x.creases(2), 1099511627775L - 999999);
        is(x.creases(3), 1);
        is(x.creases(4), 1);
        says(14, "-1.");
        no(-1, () -> x.creases(0));
        strip(0, 0, "l");
        no(-1, () -> x.creases(1));
        no(-1, () -> x.creases(-1));
        no(-1, () -> x.creases(Integer.MAX_VALUE));
        x.drop();
        no(-1, () -> x.creases(0));
    }

    private static void crease() {
        says(15, "CREASE n.");
        bends(strip(0, 0, "lrl"), "lrrlllr");
        strip(0, 0, L40);
        is(x.crease(1, 1099511627775L), 0);
        is(x.crease(1, 1099511627774L), 0);
        is(x.crease(1, 549755813888L), 1);
        is(x.crease(1, 549755813889L), 1);
        says(15, "-1;");
        no(-1, () -> x.crease(0, 1));
        no(-1, () -> x.crease(-1, 0));
        says(15, "-5 no such.");
        strip(0, 0, "lrl");
        strip(0, 0, L40);
        strip(3, 2, "lrl");
        no(-5, () -> x.crease(0, 0));
        no(-5, () -> x.crease(0, 8));
        no(-5, () -> x.crease(0, -1));
        no(-5, () -> x.crease(0, (1L << 32) + 1));
        no(-5, () -> x.crease(0, Long.MIN_VALUE));
        no(-5, () -> x.crease(0, Long.MAX_VALUE));
        no(-5, () -> x.crease(1, 1099511627776L));
        no(-5, () -> x.crease(2, 6));
        is(x.crease(2, 5), 0);
    }

    private static void way() {
        says(16, "WAY n.");
        for (int kind = 0; kind < 7; kind++) {
            int strip = strip(kind, 1, "lr");
            for (long n = 1; n <= x.creases(strip) + 1; n++) {
                long across = x.place(strip, n, 0) - x.place(strip, n - 1, 0);
                long up = x.place(strip, n, 1) - x.place(strip, n - 1, 1);
                is(x.way(strip, n), across == 1 ? 0 : up == 1 ? 1 : across == -1 ? 2 : up == -1 ? 3 : 9);
            }
        }
        // The CREASES of each LEVEL but the last turn as often on as back; a LEFT comes round in 16.
        x = new FoldedInHalf();
        strip(0, 0, L40);
        strip(6, 0, L40);
        is(x.way(0, 1099511627776L), 1);
        is(x.way(1, 1099511627776L), x.way(1, 16));
        is(x.way(1, 100001), x.way(1, 1));
        says(16, "-1;");
        no(-1, () -> x.way(0, 1));
        no(-1, () -> x.way(-1, 0));
        says(16, "-5 no such SIDE.");
        strip(0, 0, "lrl");
        strip(4, 2, "lrl");
        strip(6, 0, L40);
        no(-5, () -> x.way(0, 0));
        no(-5, () -> x.way(0, 9));
        no(-5, () -> x.way(0, (1L << 32) + 1));
        no(-5, () -> x.way(0, Long.MIN_VALUE));
        no(-5, () -> x.way(0, Long.MAX_VALUE));
        no(-5, () -> x.way(1, 7));
        no(-5, () -> x.way(2, 1099511627777L));
        holds(x.way(0, 8) >= 0 && x.way(1, 6) >= 0);
    }

    private static void place() {
        says(17, "PLACE n: x (what 0), y (1) (they may be below 0).");
        strip(0, 0, "lrl");
        strip(0, 0, "rrr");
        places(0, 0, 0, 1, 0, 1, 1, 2, 1, 2, 0, 3, 0, 3, 1, 2, 1, 2, 2);
        places(1, 0, 0, 1, 0, 1, -1, 0, -1, 0, -2, -1, -2, -1, -1, -2, -1, -2, -2);
        says(17, "For KINDS but LEFT, however far;");
        strip(0, 0, L40);
        strip(1, 0, L40);
        strip(2, 0, L40.substring(15));
        strip(3, 999999, L40);
        strip(4, 999999, L40);
        strip(5, 0, L40);
        // All one way 40 times: (1 + i) to the power of 40, or (1 - i).
        is(x.place(0, 1099511627776L, 0), 1048576);
        is(x.place(0, 1099511627776L, 1), 0);
        is(x.place(1, 1099511627776L, 0), 1048576);
        is(x.place(5, 1099511627776L, 0), 1048576);
        is(x.place(0, 549755813888L, 0), 524288);
        is(x.place(0, 549755813888L, 1), -524288);
        is(x.place(5, 549755813888L, 1), 524288);
        // 25 thirds: (2 + i) to the power of 25.
        long u = 1;
        long v = 0;
        for (int level = 0; level < 25; level++) {
            long across = 2 * u - v;
            v = 2 * v + u;
            u = across;
        }
        is(x.place(2, 847288609443L, 0), u);
        is(x.place(2, 847288609443L, 1), v);
        // A CUT from its first SIDE on, which goes as SIDE 1000000 of the STRIP does; a BACK as it from its end.
        cutFarOut();
    }

    private static void cutFarOut() {
        int turned = x.way(0, 1000000);
        long last = x.creases(3) + 1;
        for (long n = 0; n <= last; n = n == 0 ? 1 : Math.min(7 * n + 5, n == last ? last + 1 : last)) {
            long across = x.place(0, 999999 + n, 0) - x.place(0, 999999, 0);
            long up = x.place(0, 999999 + n, 1) - x.place(0, 999999, 1);
            for (int i = 0; i < turned; i++) {
                long ahead = across;
                across = up;
                up = -ahead;
            }
            is(x.place(3, n, 0), across);
            is(x.place(3, n, 1), up);
        }
        // Each SIDE of the BACK is one of the CUT, gone along the other way.
        int end = x.way(3, last);
        for (long n = 1; n <= last; n = 7 * n + 5) {
            is(x.way(4, n), (x.way(3, last + 1 - n) - end + 4) % 4);
        }
    }

    private static void placeRefused() {
        says(17, "-2000000000000001;");
        no(-2000000000000001L, () -> x.place(0, 0, 0));
        strip(0, 0, "l");
        no(-2000000000000001L, () -> x.place(1, 0, 0));
        no(-2000000000000001L, () -> x.place(-1, -1, 2));
        says(17, "..5 no such, another what (counted as -1, -5).");
        strip(0, 0, "lrl");
        strip(6, 0, L40);
        no(-2000000000000005L, () -> x.place(0, -1, 0));
        no(-2000000000000005L, () -> x.place(0, 9, 0));
        no(-2000000000000005L, () -> x.place(0, Long.MIN_VALUE, 0));
        no(-2000000000000005L, () -> x.place(0, Long.MAX_VALUE, 0));
        no(-2000000000000005L, () -> x.place(0, 0, 2));
        no(-2000000000000005L, () -> x.place(0, 0, -1));
        no(-2000000000000005L, () -> x.place(1, 100001, 2));
        no(-2000000000000005L, () -> x.place(1, 1099511627777L, 0));
        x.place(9, 0, 0);
        is(x.status(11), 1);
        is(x.status(15), 8);
        says(17, "of a LEFT n is 100,000 at most (..7).");
        strip(6, 0, L40);
        strip(6, 0, "lrl");
        strip(5, 0, L40);
        is(x.place(0, 100000, 0), 0);
        is(x.place(0, 100000, 1), 0);
        is(x.place(0, 99999, 0), 0);
        is(x.place(0, 99999, 1), 1);
        no(-2000000000000007L, () -> x.place(0, 100001, 0));
        no(-2000000000000007L, () -> x.place(0, 1099511627776L, 1));
        is(x.status(17), 2);
        no(-2000000000000005L, () -> x.place(1, 100001, 0));
        holds(x.place(2, 100001, 0) > FAR);
    }
}
