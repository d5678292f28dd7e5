/** The terms: STRIPS, SETS of them and the FAULT. */
final class EdgesOfStrips extends Edge {
    static void run() {
        numbers();
        kinds();
        folds();
        levels();
        numberA();
        items();
        itemStrip();
        itemTurn();
        itemLess();
        blanks();
        allOrNothing();
        room();
        firstPlace();
        endsTooEarly();
        numbersThatMayNotBe();
        tooLongForThird();
    }

    private static void numbers() {
        says(0, "STRIPS have numbers, from 0 on, 8 at most,");
        for (int number = 0; number < 8; number++) {
            is(strip(0, number, "l"), number);
            is(x.status(0), number + 1);
        }
        no(-7, () -> x.strip(0, 0, 7, 1));
        is(x.status(0), 8);
        is(x.creases(7), 1);
        no(-1, () -> x.creases(8));
        no(-1, () -> x.creases(-1));
    }

    private static void kinds() {
        says(0, "each of a KIND: 0 STRIP; 1 SAME, 2 THIRD, 3 CUT, 5 GLASS, each under STRIP; 4 BACK, under CUT; "
            + "6 LEFT, under GLASS;");
        // Of each KIND those that it is under, and itself.
        int[] taken = {1, 1 << 1 | 1, 1 << 2 | 1, 1 << 3 | 1, 1 << 4 | 1 << 3 | 1, 1 << 5 | 1, 1 << 6 | 1 << 5 | 1};
        for (int kind = 0; kind < 7; kind++) {
            is(strip(kind, 0, "l"), kind);
            is(x.stripOf(kind, 0), kind);
            x.show(0, kind);
            for (int wanted = 0; wanted < 7; wanted++) {
                int as = wanted;
                if ((taken[kind] >> wanted & 1) == 1) {
                    holds(x.says(0, wanted) >= 0);
                } else {
                    no(-2, () -> x.says(0, as));
                }
            }
        }
        no(-1, () -> x.strip(7, 0, 7, 1));
        no(-1, () -> x.strip(-1, 0, 7, 1));
    }

    private static void folds() {
        says(0, "FOLDS (1 to 40; THIRD 1 to 25),");
        for (int kind = 0; kind < 7; kind++) {
            int most = kind == 2 ? 25 : 40;
            int of = kind;
            x = new FoldedInHalf();
            x.row(0, 0, 41);
            no(-6, () -> x.strip(of, 0, 0, 0));
            no(-6, () -> x.strip(of, 0, 0, most + 1));
            is(x.strip(kind, 0, 0, 1), 0);
            is(x.strip(kind, 0, 0, most), 1);
            is(x.stripOf(0, 2), 1);
            is(x.stripOf(1, 2), most);
            reads("strip " + kind + " 0 " + L40.substring(40 - most), 1);
            is(x.stripOf(2, 2), most);
            fault("strip " + kind + " 0 " + L40.substring(40 - most) + "l", 10 + most);
            fault("strip " + kind + " 0 ", 10);
        }
    }

    private static void levels() {
        says(0, "a WORD: for each LEVEL 0 to FOLDS less 1 a letter, 0 or 1;");
        strip(0, 0, "l");
        strip(0, 0, "rl");
        strip(0, 0, L40);
        is(x.stripOf(0, 10), 1);
        no(-5, () -> x.stripOf(0, 11));
        is(x.stripOf(1, 10), 0);
        is(x.stripOf(1, 11), 1);
        no(-5, () -> x.stripOf(1, 12));
        is(x.stripOf(2, 49), 1);
        no(-5, () -> x.stripOf(2, 50));
        no(-5, () -> x.stripOf(2, 9));
        is(x.turn(2, 39), 1);
        is(x.stripOf(2, 49), 0);
        no(-5, () -> x.turn(2, 40));
        no(-5, () -> x.turn(2, -1));
    }

    private static void numberA() {
        says(0, "a (0 to 999,999).");
        row(0, 1);
        is(x.strip(0, 0, 0, 1), 0);
        is(x.strip(0, 999999, 0, 1), 1);
        is(x.stripOf(0, 1), 0);
        is(x.stripOf(1, 1), 999999);
        no(-6, () -> x.strip(0, -1, 0, 1));
        no(-6, () -> x.strip(0, 1000000, 0, 1));
        no(-6, () -> x.strip(0, Integer.MIN_VALUE, 0, 1));
        no(-6, () -> x.strip(0, Integer.MAX_VALUE, 0, 1));
    }

    private static void items() {
        says(0, "A SET of STRIPS is read from a ROW of letters: ITEM, then any number of times ; and ITEM:");
        strip(0, 0, "l");
        reads("turn 0 0", 1);
        reads("turn 0 0;turn 0 0", 2);
        // 17 of them are 152 elements; a ROW has room for no 18th.
        StringBuilder all = new StringBuilder("turn 0 0");
        for (int i = 1; i < 17; i++) {
            all.append(";turn 0 0");
        }
        reads(all.toString(), 17);
        is(x.stripOf(0, 10), 1);
        fault("", 0);
        fault(";", 0);
        fault(";turn 0 0", 0);
        fault("turn 0 0;", 9);
        fault("turn 0 0;;turn 0 0", 9);
        fault("turn 0 0,turn 0 0", 8);
        fault(all + ";", 153);
    }

    private static void itemStrip() {
        says(0, "strip K A W (KIND, a of 1 to 6 digits, the WORD: 1 to 40 letters l (1) or r (0), LEVEL 0 first);");
        for (int kind = 0; kind < 7; kind++) {
            reads("strip " + kind + " " + (kind + 3) + " lrr", 1);
            is(x.stripOf(kind, 0), kind);
            is(x.stripOf(kind, 1), kind + 3);
            is(x.stripOf(kind, 2), 3);
            is(x.stripOf(kind, 10), 1);
            is(x.stripOf(kind, 11), 0);
            is(x.stripOf(kind, 12), 0);
        }
        x = new FoldedInHalf();
        reads("strip 0 0 r;strip 0 999999 l;strip 0 000012 l;strip 0 000000 " + L40, 4);
        is(x.stripOf(0, 1), 0);
        is(x.stripOf(1, 1), 999999);
        is(x.stripOf(2, 1), 12);
        is(x.stripOf(3, 1), 0);
        is(x.stripOf(3, 2), 40);
        is(x.stripOf(3, 49), 1);
        fault("strip 7 0 l", 6);
        fault("strip 0  l", 8);
        fault("strip 0 0000000 l", 14);
        fault("strip 0 1000000 l", 14);
        fault("strip 0 -1 l", 8);
        fault("strip 0 0 ", 10);
        fault("strip 0 0 1", 10);
        fault("strip 0 0 L", 10);
        fault("strip 0 0 lrL", 12);
        fault("strip 0 0 " + L40 + "r", 50);
    }

    private static void itemTurn() {
        says(0, "turn N L (letter of LEVEL L of STRIP N becomes the other one);");
        strip(0, 0, "lr");
        strip(1, 0, "rl");
        reads("turn 0 0", 1);
        is(x.stripOf(0, 10), 0);
        is(x.stripOf(0, 11), 0);
        reads("turn 1 1;turn 0 1", 2);
        is(x.stripOf(1, 10), 0);
        is(x.stripOf(1, 11), 0);
        is(x.stripOf(0, 11), 1);
        is(x.stripOf(1, 0), 1);
        reads("turn 1 1;turn 1 1", 2);
        is(x.stripOf(1, 11), 0);
        fault("turn 2 0", 5);
        fault("turn 0 2", 7);
        fault("turn 0", 6);
        fault("turn 0 ", 7);
    }

    private static void itemLess() {
        says(0, "less N (one FOLD less, the last LEVEL, if there are 2 at least).");
        strip(4, 77, "rlr");
        strip(0, 0, "ll");
        reads("less 0", 1);
        is(x.stripOf(0, 0), 4);
        is(x.stripOf(0, 1), 77);
        is(x.stripOf(0, 2), 2);
        is(x.stripOf(0, 10), 0);
        is(x.stripOf(0, 11), 1);
        no(-5, () -> x.stripOf(0, 12));
        reads("less 0", 1);
        is(x.stripOf(0, 2), 1);
        fault("less 0", 5);
        is(x.stripOf(0, 2), 1);
        // The letter that was the last LEVEL's is gone with it.
        is(x.status(2), 2);
        reads("less 1", 1);
        is(x.status(2), 1);
        fault("less 2", 5);
    }

    private static void blanks() {
        says(0, "One blank between words, NUMBERS and the WORD.");
        strip(0, 0, "ll");
        fault("strip0 0 l", 5);
        fault("strip  0 0 l", 6);
        fault("strip 0  0 l", 8);
        fault("strip 0 0l", 9);
        fault("strip 0 0  l", 10);
        fault(" strip 0 0 l", 0);
        fault("strip 0 0 l ", 11);
        fault("strip 0 0 l ;less 0", 11);
        fault("strip 0 0 l; less 0", 12);
        fault("turn0 0", 4);
        fault("turn  0 0", 5);
        fault("turn 00", 7);
        fault("turn 0  0", 7);
        fault("turn 0 0 ", 8);
        fault("less0", 4);
        fault("less  0", 5);
        fault("less 0 ", 6);
        fault("turn 0\t0", 6);
    }

    private static void allOrNothing() {
        says(0, "All is told over what there is, or nothing");
        reads("strip 0 1 ll;turn 0 1;strip 1 2 rr;turn 1 0;less 0", 5);
        is(x.status(0), 2);
        is(x.status(1), 3);
        is(x.status(2), 2);
        // Over what there is by then, and nothing of it behind a FAULT at its end.
        fault("strip 0 3 l;turn 2 0;turn 1 0;less 1;less 0", 42);
        fault("turn 0 0;strip 2 5 lll;x", 23);
        fault("turn 1 0;drop", 9);
        is(x.status(0), 2);
        is(x.stripOf(1, 10), 1);
        reads("strip 0 3 lr;turn 2 0;less 2;turn 2 0", 4);
        is(x.stripOf(2, 10), 1);
        // A STRIP of a later ITEM isn't there yet.
        fault("turn 3 0;strip 0 0 l", 5);
    }

    private static void room() {
        says(0, "(what there is no room for can't stand: its word; of less that may not be: N).");
        for (int i = 0; i < 7; i++) {
            strip(0, 0, "l");
        }
        fault("strip 0 0 l;strip 0 0 l", 12);
        is(x.status(0), 7);
        fault("less 3;strip 0 0 l", 5);
        fault("turn 0 0;less 6", 14);
        reads("strip 0 0 ll", 1);
        fault("strip 0 0 l", 0);
        fault("turn 0 0;strip 0 0 l", 9);
        reads("less 7", 1);
        fault("less 7", 5);
        fault("less 8", 5);
        x.drop();
        reads("strip 0 0 l", 1);
    }

    private static void firstPlace() {
        says(0, "The FAULT: the first place at which an element can't stand as such texts go on");
        strip(0, 0, "ll");
        fault("x", 0);
        fault("Strip 0 0 l", 0);
        fault("sx", 1);
        fault("stt", 2);
        fault("strap", 3);
        fault("striq", 4);
        fault("strips", 5);
        fault("strip x", 6);
        fault("strip 0x", 7);
        fault("strip 0 x", 8);
        fault("strip 0 0x", 9);
        fault("strip 0 0 x", 10);
        fault("strip 0 0 lx", 11);
        fault("strip 0 0 l;x", 12);
        fault("trun", 1);
        fault("tux", 2);
        fault("tuxx", 2);
        fault("turm", 3);
        fault("turns", 4);
        fault("turn x", 5);
        fault("turn 0x", 6);
        fault("turn 0 x", 7);
        fault("turn 0 0x", 8);
        fault("lx", 1);
        fault("lexs", 2);
        fault("lest", 3);
        fault("lesss", 4);
        fault("less x", 5);
        fault("less 0x", 6);
        // Two that can't stand: the first.
        fault("less 0;turn 0 1;strip 9 x", 14);
        // Elements are ints: one that is a letter's number and 256 more is none.
        Check.text(x, 6, "less 0");
        x.row(5, 2, 6);
        for (int i = 0; i < 6; i++) {
            x.set(5, i, x.element(6, i) + (i == 2 ? 256 : 0));
        }
        is(x.read(5), -6);
        is(x.fault(), 2);
        x.set(5, 2, -115);
        is(x.read(5), -6);
        is(x.fault(), 2);
    }

    private static void endsTooEarly() {
        says(0, "(the number of elements, if it ends too early);");
        strip(0, 0, "ll");
        String[] whole = {"strip 0 0 l", "turn 0 1", "less 0"};
        for (String text : whole) {
            for (int length = 0; length < text.length(); length++) {
                fault(text.substring(0, length), length);
            }
        }
        fault("less 0;", 7);
        reads("less 0", 1);
    }

    private static void numbersThatMayNotBe() {
        says(0, "of a NUMBER that may not be the place of its first digit,");
        strip(0, 0, "ll");
        strip(0, 0, "l");
        fault("strip 7 0 l", 6);
        fault("strip 8", 6);
        fault("strip 10 0 l", 6);
        fault("strip 66 0 l", 6);
        fault("turn 2 0", 5);
        fault("turn 9", 5);
        fault("turn 10 0", 5);
        fault("turn 0 2", 7);
        fault("turn 0 10", 7);
        fault("turn 1 1", 7);
        fault("turn 4294967296 0", 5);
        fault("turn 0 18446744073709551616", 7);
        fault("less 2", 5);
        fault("less 10", 5);
        fault("less 1", 5);
        fault("less 1x", 5);
        fault("less 0;turn 0 1", 14);
        reads("turn 0 1", 1);
        reads("turn 1 0", 1);
        reads("strip 6 0 l", 1);
    }

    private static void tooLongForThird() {
        says(0, "of a WORD too long for a THIRD the letter that is one too many.");
        String l25 = L40.substring(15);
        fault("strip 2 7 " + l25 + "r", 35);
        fault("strip 2 7 " + L40, 35);
        fault("strip 2 123456 " + l25 + "lx", 40);
        fault("strip 2 7 " + l25 + "x", 35);
        fault("strip 0 7 l;strip 2 7 " + l25 + "l;turn 0 0", 47);
        reads("strip 2 7 " + l25, 1);
        reads("strip 3 7 " + l25 + "r", 1);
    }
}
