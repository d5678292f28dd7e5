/** Promises 35 to 40, clause by clause: the last STRIP dropped, acts and their trace, the image, how many. */
final class PromisesOfActs extends Edge {
    static void run() {
        drop();
        act();
        trace();
        image();
        restore();
        restoredShelves();
        statusOfStrips();
        statusOfRefusals();
        statusNone();
    }

    private static void drop() {
        says(35, "The last STRIP goes: how many are left (SHELVES that hold it hold NOTHING).");
        strip(0, 0, "l");
        strip(0, 0, "lr");
        strip(0, 0, "lrl");
        for (int s = 0; s < 6; s++) {
            x.show(s, s % 3);
        }
        is(x.drop(), 2);
        int[] held = {0, 1, NONE, 0, 1, NONE, NONE, 102};
        for (int s = 0; s < 8; s++) {
            is(x.holds(s), held[s]);
        }
        is(x.status(1), 3);
        is(x.drop(), 1);
        is(x.drop(), 0);
        for (int s = 0; s < 7; s++) {
            is(x.holds(s), NONE);
        }
        // The next one has the number, and no SHELF holds it.
        is(strip(0, 0, "l"), 0);
        is(x.holds(0), NONE);
        says(35, "-6 there is none.");
        no(-6, () -> x.drop());
        strip(0, 0, "l");
        is(x.drop(), 0);
        no(-6, () -> x.drop());
    }

    private static void act() {
        says(36, "An ACT of a STRIP with x.");
        strip(0, 4, "l");
        strip(1, 4, "l");
        is(x.act(0, 0, 9), 9);
        is(x.act(0, 1, 9), 18);
        is(x.act(0, 2, 9), 18 ^ 5);
        is(x.act(1, 0, 9), 14);
        is(x.act(1, 0, Integer.MAX_VALUE), Integer.MIN_VALUE + 4);
        // An ACT may answer as a refusal does, and is none.
        is(x.act(0, 0, -6), -6);
        is(x.status(16), 0);
        says(36, "0, and no TRACE then: no such STRIP, act.");
        strip(0, 4, "l");
        int[][] none = {{1, 0}, {-1, 0}, {0, 3}, {0, -1}, {8, 9}, {0, Integer.MAX_VALUE}, {Integer.MIN_VALUE, 0}};
        for (int[] one : none) {
            is(x.act(0, 2, 9), 18 ^ 5);
            is(x.status(3), 4);
            is(x.act(one[0], one[1], 9), 0);
            is(x.status(3), 0);
            is(x.trace(0), NONE);
        }
        for (int number = 11; number <= 17; number++) {
            is(x.status(number), 0);
        }
    }

    private static void trace() {
        says(37, "THE TRACE's i-th body.");
        strip(4, 4, "l");
        x.act(0, 2, 9);
        int[] due = {50, 12, 40, 11, 51, 10, 51, 10};
        for (int i = 0; i < 8; i++) {
            is(x.trace(i), due[i]);
        }
        says(37, "NONE: none such.");
        is(x.trace(0), NONE);
        strip(0, 4, "l");
        x.act(0, 0, 9);
        is(x.trace(0), 10);
        for (int i : new int[] {-1, 1, 19, 20, Integer.MIN_VALUE, Integer.MAX_VALUE}) {
            is(x.trace(i), NONE);
        }
    }

    private static void image() {
        says(38, "THE IMAGE of all but SHELVES (and THE IMAGE, REFUSALS, the FAULT, THE TRACE) is taken: how many STRIPS.");
        is(x.image(), 0);
        strip(2, 7, "lrl");
        is(x.image(), 1);
        // None of these goes back.
        row(0, 1, 2);
        fault("x", 0);
        no(-1, () -> x.creases(5));
        x.act(0, 1, 3);
        x.turn(0, 0);
        is(x.restore(), 1);
        is(x.element(0, 1), 2);
        is(x.fault(), 0);
        is(x.status(11), 1);
        is(x.status(16), 1);
        is(x.trace(0), 30);
        is(x.status(3), 3);
        is(x.stripOf(0, 10), 1);
        // It is all of a STRIP: KIND, a, FOLDS and letters.
        reads("less 0;strip 0 0 l", 2);
        x.drop();
        x.drop();
        strip(6, 0, "rrrr");
        is(x.restore(), 1);
        is(x.stripOf(0, 0), 2);
        is(x.stripOf(0, 1), 7);
        is(x.stripOf(0, 2), 3);
        is(x.stripOf(0, 12), 1);
        // A later one takes its place.
        for (int i = 1; i < 8; i++) {
            strip(0, 0, "l");
        }
        is(x.image(), 8);
        x.drop();
        is(x.restore(), 8);
    }

    private static void restore() {
        says(39, "All is as THE IMAGE has it;");
        strip(3, 9, "lrl");
        strip(0, 0, "l");
        x.image();
        for (int time = 0; time < 2; time++) {
            x.turn(0, 2);
            x.turn(1, 0);
            reads("less 0", 1);
            x.drop();
            strip(1, 5, "rrrr");
            strip(1, 5, "rrrr");
            is(x.restore(), 2);
            is(x.status(0), 2);
            is(x.status(1), 4);
            is(x.status(2), 3);
            is(x.stripOf(0, 12), 1);
            is(x.stripOf(1, 0), 0);
            is(x.creases(0), 5);
        }
        // What is done behind it leaves THE IMAGE as it is.
        x.turn(0, 0);
        is(x.restore(), 2);
        is(x.stripOf(0, 10), 1);
    }

    private static void restoredShelves() {
        says(39, "SHELVES with STRIPS hold those of these numbers, or NOTHING: how many STRIPS.");
        strip(0, 0, "ll");
        x.image();
        strip(3, 0, "l");
        x.show(0, 0);
        x.show(1, 1);
        row(2, 8);
        reads("less 0", 1);
        is(x.says(0, 0), 1);
        is(x.restore(), 1);
        is(x.holds(0), 0);
        is(x.says(0, 0), 2);
        is(x.holds(1), NONE);
        is(x.element(2, 0), 8);
        is(x.holds(3), NONE);
        // Of a number that the STRIPS have again: the one of THE IMAGE.
        x.drop();
        is(x.holds(0), NONE);
        strip(5, 0, "rrr");
        x.show(0, 0);
        is(x.restore(), 1);
        is(x.holds(0), 0);
        no(-2, () -> x.says(0, 5));
        is(x.says(0, 0), 2);
        // A STRIP gone and made again by restore is held by no SHELF.
        x.drop();
        is(x.restore(), 1);
        is(x.holds(0), NONE);
        says(39, "-6 there is none.");
        no(-6, () -> x.restore());
        strip(0, 0, "l");
        no(-6, () -> x.restore());
        x.drop();
        is(x.image(), 0);
        is(x.restore(), 0);
    }

    private static void statusOfStrips() {
        says(40, "How many: 0 STRIPS, 1 FOLDS of all, 2 letters that are 1 (of all WORDS), 3 bodies that ran in the latest "
            + "act() (all, kept or not);");
        for (int what = 0; what < 4; what++) {
            is(x.status(what), 0);
        }
        for (int i = 1; i <= 8; i++) {
            strip(i % 2 == 0 ? 0 : 6, 0, L40);
            is(x.status(0), i);
            is(x.status(1), 40 * i);
            is(x.status(2), 40 * i);
        }
        x.turn(3, 39);
        is(x.status(2), 319);
        reads("less 3;less 4", 2);
        is(x.status(1), 318);
        is(x.status(2), 318);
        x.act(0, 2, 1);
        is(x.status(3), 8);
        x.act(1, 0, 1);
        is(x.status(3), 1);
        x.act(9, 0, 1);
        is(x.status(3), 0);
        // Letters of the WORD, whatever CREASES a SAME makes of them.
        x.drop();
        strip(1, 0, "lll");
        is(x.status(2), 318 - 40 + 3);
    }

    private static void statusOfRefusals() {
        says(40, "11 to 17: REFUSALS -1 to -7.");
        row(1, 0);
        for (int time = 1; time <= 3; time++) {
            no(-1, () -> x.creases(0));
            no(-3, () -> x.set(0, 0, 0));
            no(-4, () -> x.row(0, 0, -1));
            no(-5, () -> x.set(1, 1, 0));
            no(-6, () -> x.drop());
            no(-7, () -> x.row(0, 0, 161));
            no(-11, () -> x.wrong(8, 0));
            no(-15, () -> x.wrong(1, 2));
            no(FAR - 1, () -> x.place(0, 0, 0));
            int[] due = {0, 3 * time, 0, time, time, 2 * time, time, time};
            for (int number = 1; number <= 7; number++) {
                is(x.status(10 + number), due[number]);
            }
        }
        strip(0, 0, "l");
        x.show(0, 0);
        no(-2, () -> x.set(0, 0, 0));
        is(x.status(12), 1);
    }

    private static void statusNone() {
        says(40, "NONE for another what.");
        strip(0, 0, "l");
        for (int what : new int[] {-1, 4, 9, 10, 18, -11, Integer.MIN_VALUE, Integer.MAX_VALUE}) {
            is(x.status(what), NONE);
        }
    }
}
