/** Promises 9 to 13 and 35: strips made, told, turned, read and dropped. */
public final class StripsTest {
    private static final String L40 = "llllllllllllllllllllllllllllllllllllllll";
    private static FoldedInHalf x;

    public static void main(String[] args) {
        strip();
        stripOf();
        turn();
        read();
        faults();
        room();
        allOrNothing();
        drop();
        Check.report();
    }

    private static void counted(String what, int refusal, long want) {
        Check.due("refusals " + refusal + " behind " + what, x.status(10 - refusal), want);
    }

    private static void strip() {
        x = new FoldedInHalf();
        Check.row(x, 0, 3, -2, 5, 0);
        for (int kind = 0; kind < 7; kind++) {
            Check.due("strip of kind " + kind, x.strip(kind, kind * 10, 0, 4), kind);
            Check.due("its kind", x.stripOf(kind, 0), kind);
        }
        for (int level = 0; level < 4; level++) {
            Check.due("lowest bits, level " + level, x.stripOf(0, 10 + level), 1 - level % 2);
        }
        Check.due("strip 7", x.strip(0, 999999, 0, 1), 7);
        Check.due("strip room", x.strip(0, 0, 0, 1), -7);
        Check.due("strip a ahead of room", x.strip(0, 1000000, 0, 1), -6);
        Check.due("strip a below 0", x.strip(0, -1, 0, 1), -6);
        Check.due("strip n 0", x.strip(0, 0, 0, 0), -6);
        Check.due("strip n below, a wrong", x.strip(0, -1, 0, -1), -4);
        Check.due("strip fewer elements, a wrong", x.strip(0, -1, 0, 5), -5);
        Check.due("strip of nothing", x.strip(0, 0, 1, -1), -3);
        x.show(2, 0);
        Check.due("strip by a strip", x.strip(0, 0, 2, -1), -2);
        Check.due("strip no kind", x.strip(7, 0, 2, 1), -1);
        Check.due("strip no kind", x.strip(-1, 0, 0, 1), -1);
        Check.due("strip no shelf", x.strip(0, 0, 8, 1), -1);
        Check.due("strip no shelf", x.strip(0, 0, -1, 1), -1);
        counted("strip", -1, 4);
        counted("strip", -2, 1);
        counted("strip", -3, 1);
        counted("strip", -4, 1);
        counted("strip", -5, 1);
        counted("strip", -6, 3);
        counted("strip", -7, 1);
        Check.due("refused strips are not there", x.status(0), 8);
        longest();
    }

    private static void longest() {
        x = new FoldedInHalf();
        x.row(0, 0, 41);
        Check.due("strip n 41", x.strip(0, 0, 0, 41), -6);
        Check.due("strip n 40", x.strip(6, 0, 0, 40), 0);
        Check.due("THIRD n 26", x.strip(2, 0, 0, 26), -6);
        Check.due("THIRD n 25", x.strip(2, 0, 0, 25), 1);
        x.row(1, 3, 1);
        x.set(1, 0, 1L << 32);
        x.strip(0, 0, 1, 1);
        Check.due("the lowest bit of a long", x.stripOf(2, 10), 0);
    }

    private static void stripOf() {
        x = new FoldedInHalf();
        Check.strip(x, 3, 77, "lrl");
        Check.strip(x, 1, 2, "lrl");
        Check.strip(x, 5, 0, "lrl");
        Check.due("stripOf kind", x.stripOf(0, 0), 3);
        Check.due("stripOf a", x.stripOf(0, 1), 77);
        Check.due("stripOf folds", x.stripOf(0, 2), 3);
        for (int strip = 0; strip < 3; strip++) {
            Check.due("stripOf level 0 of " + strip, x.stripOf(strip, 10), 1);
            Check.due("stripOf level 1 of " + strip, x.stripOf(strip, 11), 0);
            Check.due("stripOf level 2 of " + strip, x.stripOf(strip, 12), 1);
        }
        Check.due("stripOf level 3", x.stripOf(0, 13), -5);
        Check.due("stripOf 3", x.stripOf(0, 3), -5);
        Check.due("stripOf 9", x.stripOf(0, 9), -5);
        Check.due("stripOf -1", x.stripOf(0, -1), -5);
        Check.due("stripOf far below", x.stripOf(0, Integer.MIN_VALUE), -5);
        Check.due("stripOf no strip", x.stripOf(3, 0), -5);
        Check.due("stripOf no strip", x.stripOf(-1, 0), -5);
        counted("stripOf", -5, 7);
        counted("stripOf", -1, 0);
    }

    private static void turn() {
        x = new FoldedInHalf();
        Check.strip(x, 0, 0, "lr");
        Check.strip(x, 6, 0, L40);
        Check.due("turn", x.turn(0, 0), 1);
        Check.due("turn", x.stripOf(0, 10), 0);
        Check.due("turn bends crease 1", x.crease(0, 1), 0);
        Check.due("turn", x.turn(0, 1), 0);
        Check.due("turn", x.stripOf(0, 11), 1);
        Check.due("turn again", x.turn(0, 1), 1);
        Check.due("turn level 39", x.turn(1, 39), 1);
        Check.due("turn level 39", x.stripOf(1, 49), 0);
        Check.due("turn leaves its kind", x.stripOf(1, 0), 6);
        Check.due("turn level 40", x.turn(1, 40), -5);
        Check.due("turn level 2", x.turn(0, 2), -5);
        Check.due("turn level -1", x.turn(0, -1), -5);
        Check.due("turn no strip", x.turn(2, 99), -1);
        Check.due("turn no strip", x.turn(-1, 0), -1);
        counted("turn", -1, 2);
        counted("turn", -5, 3);
    }

    private static int read(String text) {
        Check.text(x, 0, text);
        return x.read(0);
    }

    private static void read() {
        x = new FoldedInHalf();
        Check.due("read", read("strip 3 000005 lrl;strip 2 999999 r;turn 0 2;less 0"), 4);
        Check.due("fault", x.fault(), -1);
        Check.due("strips", x.status(0), 2);
        Check.due("kind", x.stripOf(0, 0), 3);
        Check.due("a", x.stripOf(0, 1), 5);
        Check.due("folds", x.stripOf(0, 2), 2);
        Check.due("letters", x.stripOf(0, 10), 1);
        Check.due("letters", x.stripOf(0, 11), 0);
        Check.due("kind", x.stripOf(1, 0), 2);
        Check.due("a", x.stripOf(1, 1), 999999);
        Check.due("turn over what there is", read("turn 1 0"), 1);
        Check.due("turned", x.stripOf(1, 10), 1);
        Check.due("a letter gone is gone", x.status(2), 2);
        Check.due("40 letters", read("strip 6 1 " + L40), 1);
        Check.due("25 letters of a THIRD", read("strip 2 1 " + L40.substring(15)), 1);
        Check.due("folds of all", x.status(1), 2 + 1 + 40 + 25);
        Check.due("read no shelf", x.read(8), -1);
        Check.due("read no shelf", x.read(-1), -1);
        x.show(1, 0);
        Check.due("read a strip", x.read(1), -2);
        Check.due("read nothing", x.read(2), -3);
        Check.due("these are no rows", x.fault(), -1);
        Check.due("read a fault", read("strop"), -6);
        Check.due("fault", x.fault(), 3);
        x.read(1);
        x.read(2);
        x.read(8);
        Check.due("the latest that came to a row", x.fault(), 3);
        x.image();
        x.restore();
        Check.due("the image is not of the fault", x.fault(), 3);
        counted("read", -1, 3);
        counted("read", -2, 2);
        counted("read", -3, 2);
        counted("read", -6, 1);
        asLongs();
    }

    /** Signs are taken as ints: the lowest 32 bits of longs, all of the others. */
    private static void asLongs() {
        String text = "less 0";
        x.row(3, 3, text.length());
        for (int i = 0; i < text.length(); i++) {
            x.set(3, i, text.charAt(i) + (5L << 32));
        }
        Check.due("read longs", x.read(3), 1);
        x.row(3, 2, 1);
        x.set(3, 0, 's' + 256);
        x.read(3);
        Check.due("an int is no byte", x.fault(), 0);
    }

    private static void fault(String text, int place) {
        FoldedInHalf fresh = new FoldedInHalf();
        x = fresh;
        Check.strip(x, 0, 0, "ll");
        Check.strip(x, 0, 0, "l");
        int answer = read(text);
        Check.due("read of '" + text + "'", answer, place == -1 ? x.status(0) - 2 : -6);
        Check.due("fault of '" + text + "'", x.fault(), place);
    }

    private static void faults() {
        fault("", 0);
        fault(" ", 0);
        fault("x", 0);
        fault("strip", 5);
        fault("str", 3);
        fault("Strip", 0);
        fault("stripp", 5);
        fault("strip ", 6);
        fault("strip  0", 6);
        fault("strip 0", 7);
        fault("strip 7 0 l", 6);
        fault("strip 7", 6);
        fault("strip 10 0 l", 6);
        fault("strip 7x", 6);
        fault("strip 0x", 7);
        fault("strip -1", 6);
        fault("strip 0 x", 8);
        fault("strip 0  ", 8);
        fault("strip 0 1", 9);
        fault("strip 0 999999 l", -1);
        fault("strip 0 1000000 l", 14);
        fault("strip 0 0000000 l", 14);
        fault("strip 0 000000 l", -1);
        fault("strip 0 1 ", 10);
        fault("strip 0 1 x", 10);
        fault("strip 0 1 ;", 10);
        fault("strip 0 1 lx", 11);
        fault("strip 0 1 lL", 11);
        fault("strip 0 1 l ", 11);
        fault("strip 0 1 l;", 12);
        fault("strip 0 1 l;;", 12);
        fault("strip 0 1 l; strip", 12);
        fault("strip 0 1 " + L40 + "l", 50);
        fault("strip 0 1 " + L40 + "x", 50);
        fault("strip 0 1 " + L40, -1);
        fault("strip 2 1 " + L40.substring(15), -1);
        fault("strip 2 1 " + L40.substring(14), 35);
        fault("turn", 4);
        fault("turn 0", 6);
        fault("turn 2 0", 5);
        fault("turn 99999999999999999999 0", 5);
        fault("turn 0 2", 7);
        fault("turn 1 1", 7);
        fault("turn 1 x", 7);
        fault("turn 1 0x", 8);
        fault("less", 4);
        fault("less ", 5);
        fault("less 1", 5);
        fault("less 2", 5);
        fault("less 1;less 0", 5);
        fault("less 0;less 0", 12);
        fault("lest 0", 3);
        fault("tl", 1);
        fault("sl", 1);
    }

    private static void room() {
        x = new FoldedInHalf();
        for (int i = 0; i < 7; i++) {
            Check.strip(x, 0, 0, "ll");
        }
        Check.due("no room for a second", read("strip 0 0 l;strip 0 0 l"), -6);
        Check.due("its word", x.fault(), 12);
        Check.due("nothing is there of it", x.status(0), 7);
        Check.due("a word not whole", read("strip 0 0 l;stri"), -6);
        Check.due("a word not whole", x.fault(), 16);
        Check.due("a word not whole", read("strip 0 0 l;strix"), -6);
        Check.due("a word not whole", x.fault(), 16);
        Check.due("a whole word at the end", read("strip 0 0 l;strip"), -6);
        Check.due("a whole word at the end", x.fault(), 12);
        Check.due("room for one", read("strip 0 0 l;turn 7 0;turn 6 1"), 3);
        Check.due("room for none", read("strip 0 0 l"), -6);
        Check.due("room for none", x.fault(), 0);
    }

    private static void allOrNothing() {
        x = new FoldedInHalf();
        Check.strip(x, 0, 0, "llr");
        x.show(3, 0);
        Check.due("fault", read("turn 0 0;less 0;strip 1 1 l;turn 5 0"), -6);
        Check.due("fault", x.fault(), 33);
        Check.due("strips", x.status(0), 1);
        Check.due("folds", x.status(1), 3);
        Check.due("letters", x.status(2), 2);
        Check.due("over what there is by then", read("less 0;strip 0 0 rr;turn 1 1;less 1;turn 0 1"), 5);
        Check.due("strips", x.status(0), 2);
        Check.due("folds", x.status(1), 3);
        Check.due("letters", x.status(2), 1);
        Check.due("as it is then", x.says(3, 0), 2);
        Check.due("level gone", read("turn 1 1"), -6);
        Check.due("level gone", x.fault(), 7);
    }

    private static void drop() {
        x = new FoldedInHalf();
        Check.due("drop of none", x.drop(), -6);
        Check.strip(x, 0, 0, "l");
        Check.strip(x, 1, 0, "ll");
        x.show(0, 1);
        x.show(1, 1);
        x.show(2, 1);
        x.show(3, 0);
        x.show(6, 1);
        Check.due("drop", x.drop(), 1);
        Check.due("a shelf of another", x.holds(3), 0);
        Check.due("a shelf of it", x.holds(0), -1);
        Check.due("a shelf of it", x.holds(1), -1);
        Check.due("a shelf of it", x.holds(6), -1);
        Check.due("a shelf of it", x.holds(2), -1);
        Check.due("a row stays", x.holds(7), 102);
        Check.due("it is gone", x.creases(1), -1);
        Check.strip(x, 2, 0, "lll");
        Check.due("the next one has its number", x.stripOf(1, 0), 2);
        Check.due("and is not shown", x.holds(1), -1);
        Check.due("drop", x.drop(), 1);
        Check.due("drop", x.drop(), 0);
        Check.due("drop of none", x.drop(), -6);
        counted("drop", -6, 2);
    }
}
