/** The terms: CREASES of each KIND, and how they are LAID OUT. */
final class EdgesOfCreases extends Edge {
    static void run() {
        numbers();
        howMany();
        howManyOfThird();
        howManyOfCut();
        sides();
        ofStrip();
        ofSame();
        ofThird();
        ofCut();
        ofBack();
        ofGlass();
        ofLeft();
        beginning();
        ways();
        turns();
        placesAndWays();
    }

    private static void numbers() {
        says(0, "CREASES of a STRIP have numbers, from 1 on, each 1 (to the left) or 0 (to the right).");
        strip(0, 0, "l");
        strip(0, 0, "r");
        is(x.crease(0, 1), 1);
        is(x.crease(1, 1), 0);
        no(-5, () -> x.crease(0, 0));
        no(-5, () -> x.crease(0, -1));
        no(-5, () -> x.crease(0, 2));
        // Left of the first SIDE is up.
        is(x.place(0, 2, 1), 1);
        is(x.place(1, 2, 1), -1);
    }

    private static void howMany() {
        says(0, "How many: 2 to the power of FOLDS, less 1;");
        long due = 1;
        for (int folds = 1; folds <= 40; folds++) {
            x = new FoldedInHalf();
            for (int kind : new int[] {0, 1, 5, 6}) {
                int strip = strip(kind, 999999, L40.substring(40 - folds));
                is(x.creases(strip), due);
                holds(x.crease(strip, due) >= 0);
                no(-5, () -> x.crease(strip, x.creases(strip) + 1));
            }
            due = 2 * due + 1;
        }
        is(due, (1L << 41) - 1);
    }

    private static void howManyOfThird() {
        says(0, "of a THIRD 3 to the power of FOLDS, less 1;");
        long sides = 3;
        for (int folds = 1; folds <= 25; folds++) {
            x = new FoldedInHalf();
            strip(2, 0, L40.substring(40 - folds));
            is(x.creases(0), sides - 1);
            holds(x.crease(0, sides - 1) >= 0);
            no(-5, () -> x.crease(0, x.creases(0) + 1));
            sides *= 3;
        }
        is(sides / 3, 847288609443L);
    }

    private static void howManyOfCut() {
        says(0, "of a CUT (and BACK), which begins behind CREASE b (a modulo how many a STRIP would have; "
            + "0: at the beginning), b fewer.");
        int[] numbers = {0, 1, 6, 7, 8, 13, 14, 999999};
        int[] due = {7, 6, 1, 7, 6, 1, 7, 7};
        for (int i = 0; i < numbers.length; i++) {
            x = new FoldedInHalf();
            is(x.creases(strip(3, numbers[i], "lrl")), due[i]);
            is(x.creases(strip(4, numbers[i], "lrl")), due[i]);
        }
        is(999999 % 7, 0);
        // One CREASE: any number modulo 1 is 0.
        x = new FoldedInHalf();
        bends(strip(3, 5, "l"), "l");
        bends(strip(4, 999999, "l"), "r");
        bends(strip(3, 7, "lrl"), "lrrlllr");
        bends(strip(3, 6, "lrl"), "r");
        // 999999 modulo 15 is 9: CREASES 10 to 15 of llll.
        bends(strip(3, 999999, "llll"), "lrrlrr");
        // A FOLD less, and b is another one.
        x = new FoldedInHalf();
        strip(3, 8, "lrl");
        is(x.creases(0), 6);
        reads("less 0", 1);
        is(x.creases(0), 1);
    }

    private static void sides() {
        says(0, "SIDES: one more than CREASES.");
        for (int kind = 0; kind < 7; kind++) {
            int strip = strip(kind, 2, "lrl");
            long last = x.creases(strip) + 1;
            holds(x.way(strip, last) >= 0);
            no(-5, () -> x.way(strip, last + 1));
            holds(x.place(strip, last, 0) > FAR);
            no(FAR - 5, () -> x.place(strip, last + 1, 0));
            holds(x.cover(strip, (int) last) > 0);
            no(-5, () -> x.cover(strip, (int) last + 1));
        }
    }

    private static void ofStrip() {
        says(0, "CREASE n of a STRIP: n is m times 2 to the power of k, m odd: the letter of LEVEL k, "
            + "if m modulo 4 is 1, else the other one.");
        bends(strip(0, 0, "l"), "l");
        bends(strip(0, 0, "r"), "r");
        bends(strip(0, 0, "lrl"), "lrrlllr");
        bends(strip(0, 0, "rlr"), "rllrrrl");
        bends(strip(0, 999999, "llll"), "llrllrrl" + "llrrlrr");
        // LEVEL 39 has just one CREASE, LEVEL 38 two, one each way.
        int far = strip(0, 0, L40);
        is(x.crease(far, 1L << 39), 1);
        is(x.crease(far, 1L << 38), 1);
        is(x.crease(far, 3L << 38), 0);
        is(x.crease(far, (1L << 40) - 1), 0);
        x.turn(far, 39);
        is(x.crease(far, 1L << 39), 0);
        is(x.crease(far, 1L << 38), 1);
    }

    private static void ofSame() {
        says(0, "SAME: so, but all letters a modulo 2.");
        bends(strip(1, 0, "lrl"), "rrlrrll");
        bends(strip(1, 1, "rrr"), "llrllrr");
        bends(strip(1, 2, "lll"), "rrlrrll");
        bends(strip(1, 999999, "r"), "l");
        bends(strip(1, 999998, "l"), "r");
        // A letter turned changes none of them.
        x.turn(0, 0);
        bends(0, "rrlrrll");
        is(x.stripOf(0, 10), 0);
    }

    private static void ofThird() {
        says(0, "THIRD: n is m times 3 to the power of k, m no multiple of 3: the letter of LEVEL k, "
            + "if m modulo 3 is 1, else the other one.");
        bends(strip(2, 0, "l"), "lr");
        bends(strip(2, 0, "r"), "rl");
        bends(strip(2, 0, "lr"), "lrrlrllr");
        strip(2, 0, L40.substring(15));
        is(x.crease(3, 282429536481L), 1);
        is(x.crease(3, 2 * 282429536481L), 0);
        is(x.crease(3, 847288609442L), 0);
        no(-5, () -> x.crease(3, 847288609443L));
    }

    private static void ofCut() {
        says(0, "CUT: that of number n and b of a STRIP.");
        bends(strip(3, 2, "lrl"), "rlllr");
        bends(strip(3, 0, "lrl"), "lrrlllr");
        bends(strip(3, 9, "lrl"), "rlllr");
        strip(0, 0, L40);
        strip(3, 999999, L40);
        long most = (1L << 40) - 1 - 999999;
        for (long n = 1; n <= most; n = 3 * n + 1) {
            is(x.crease(4, n), x.crease(3, n + 999999));
        }
        is(x.crease(4, most), x.crease(3, (1L << 40) - 1));
        no(-5, () -> x.crease(4, most + 1));
    }

    private static void ofBack() {
        says(0, "BACK: as a CUT read from the other end: of number (CREASES and 1) less n of the CUT, the other one.");
        // The CUT is rlllr: read backwards rlllr, each the other one.
        bends(strip(4, 2, "lrl"), "lrrrl");
        bends(strip(4, 0, "lrl"), "lrrrllr");
        bends(strip(4, 6, "lrl"), "l");
        bends(strip(4, 0, "l"), "r");
        strip(3, 999999, L40);
        strip(4, 999999, L40);
        long most = x.creases(5);
        for (long n = 1; n <= most; n = 3 * n + 1) {
            is(x.crease(5, n), 1 - x.crease(4, most + 1 - n));
        }
        is(x.crease(5, most), 1 - x.crease(4, 1));
    }

    private static void ofGlass() {
        says(0, "GLASS: the other one than a STRIP's.");
        bends(strip(5, 0, "lrl"), "rllrrrl");
        bends(strip(5, 999999, "l"), "r");
        bends(strip(5, 0, "r"), "l");
    }

    private static void ofLeft() {
        says(0, "LEFT: as a GLASS, but 1 where n is a multiple of 4.");
        bends(strip(6, 0, "lrl"), "rlllrrl");
        bends(strip(6, 0, "llll"), "rrllrlll" + "rrllrll");
        bends(strip(6, 0, "l"), "r");
        bends(strip(6, 0, "rl"), "lrr");
        strip(6, 0, L40);
        is(x.crease(4, 1L << 39), 1);
        is(x.crease(4, (1L << 39) + 4), 1);
        is(x.crease(4, (1L << 39) + 1), 0);
        is(x.crease(4, (1L << 39) + 2), 0);
        is(x.crease(4, (1L << 39) + 3), 1);
    }

    private static void beginning() {
        says(0, "LAID OUT: it begins at (0, 0), the first SIDE goes to (1, 0);");
        for (int kind = 0; kind < 7; kind++) {
            int strip = strip(kind, 3, "llr");
            places(strip, 0, 0, 1, 0);
            is(x.way(strip, 1), 0);
        }
        is(x.way(strip(3, 999999, L40), 1), 0);
        places(7, 0, 0, 1, 0);
    }

    private static void ways() {
        says(0, "WAY 0 is so, 1 up (y grows), 2 back, 3 down;");
        // l l r: ways 0 1 2 1; r r l: ways 0 3 2 3.
        strip(0, 0, "ll");
        strip(0, 0, "rr");
        int[] up = {0, 1, 2, 1};
        int[] down = {0, 3, 2, 3};
        for (int n = 1; n <= 4; n++) {
            is(x.way(0, n), up[n - 1]);
            is(x.way(1, n), down[n - 1]);
        }
        places(0, 0, 0, 1, 0, 1, 1, 0, 1, 0, 2);
        places(1, 0, 0, 1, 0, 1, -1, 0, -1, 0, -2);
    }

    private static void turns() {
        says(0, "behind SIDE n CREASE n: 1: the next one goes a WAY on (from 3 to 0), 0: a WAY back.");
        // CREASES l l r l l r r.
        strip(1, 1, "lll");
        int[] round = {0, 1, 2, 1, 2, 3, 2, 1};
        for (int n = 1; n <= 8; n++) {
            is(x.way(0, n), round[n - 1]);
        }
        // CREASES l l r l l r r l l l r l l r r: from 3 on to 0, and back.
        strip(6, 0, "rrrr");
        int[] on = {0, 1, 2, 1, 2, 3, 2, 1, 2, 3, 0, 3, 0, 1, 0, 3};
        for (int n = 1; n <= 16; n++) {
            is(x.way(1, n), on[n - 1]);
        }
        // The first 0 leads from WAY 0 back to 3.
        strip(0, 0, "r");
        is(x.way(2, 2), 3);
        for (int strip = 0; strip < 3; strip++) {
            for (long n = 1; n <= x.creases(strip); n++) {
                is(x.way(strip, n + 1), (x.way(strip, n) + (x.crease(strip, n) == 1 ? 1 : 3)) % 4);
            }
        }
    }

    private static void placesAndWays() {
        says(0, "PLACE n: where it is behind n SIDES; WAY n: that of SIDE n.");
        strip(0, 0, "lrl");
        places(0, 0, 0, 1, 0, 1, 1, 2, 1, 2, 0, 3, 0, 3, 1, 2, 1, 2, 2);
        int[] ways = {0, 1, 0, 3, 0, 1, 2, 1};
        for (int n = 1; n <= 8; n++) {
            is(x.way(0, n), ways[n - 1]);
        }
        no(-5, () -> x.way(0, 0));
        no(FAR - 5, () -> x.place(0, -1, 0));
    }
}
