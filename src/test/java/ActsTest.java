/** Promises 36 to 40: acts and their trace, the image, what there is how many of. */
public final class ActsTest {
    private static FoldedInHalf x;

    public static void main(String[] args) {
        acts();
        noActs();
        wrapping();
        image();
        shelvesOfAnImage();
        status();
        Check.report();
    }

    private static void due(String what, int got, int want, int... bodies) {
        Check.due(what, got, want);
        for (int i = 0; i < bodies.length; i++) {
            Check.due(what + ", trace " + i, x.trace(i), bodies[i]);
        }
        Check.due(what + ", no more of the trace", x.trace(bodies.length), -1);
        Check.due(what + ", bodies", x.status(3), bodies.length);
    }

    /** STRIP m of KIND m, each with a 3. */
    private static void acts() {
        x = new FoldedInHalf();
        for (int kind = 0; kind < 7; kind++) {
            Check.strip(x, kind, 3, "lr");
        }
        due("STRIP folds", x.act(0, 0, 9), 9, 10);
        due("STRIP opens", x.act(0, 1, 9), 18, 11, 10);
        due("STRIP lies", x.act(0, 2, 9), 18 ^ 6, 12, 11, 10, 10);
        due("SAME folds", x.act(1, 0, 9), 13, 20, 10);
        due("SAME opens", x.act(1, 1, 9), 26, 11, 20, 10);
        due("SAME lies", x.act(1, 2, 9), 26 ^ 10, 12, 11, 20, 10, 20, 10);
        due("THIRD folds", x.act(2, 0, 9), 11, 10);
        due("THIRD opens", x.act(2, 1, 9), 66, 30, 11, 10);
        due("THIRD lies", x.act(2, 2, 9), 66 ^ 8, 12, 30, 11, 10, 10);
        due("CUT folds", x.act(3, 0, 9), 12, 10);
        due("CUT opens", x.act(3, 1, 9), 26, 40, 11, 10);
        due("CUT lies", x.act(3, 2, 9), 26 ^ 9, 12, 40, 11, 10, 10);
        due("BACK folds", x.act(4, 0, 9), 9, 51, 10);
        due("BACK opens", x.act(4, 1, 9), 20, 40, 11, 51, 10);
        due("BACK lies", x.act(4, 2, 9), -(20 ^ 6), 50, 12, 40, 11, 51, 10, 51, 10);
        due("GLASS folds", x.act(5, 0, 9), 14, 10);
        due("GLASS opens", x.act(5, 1, 9), 28, 11, 10);
        due("GLASS lies", x.act(5, 2, 9), 28 ^ 11 ^ 5, 60, 12, 11, 10, 10);
        due("LEFT folds", x.act(6, 0, 9), 30, 70, 10);
        due("LEFT opens", x.act(6, 1, 9), 48, 71, 11, 70, 10);
        due("LEFT lies", x.act(6, 2, 9), 48 ^ 24 ^ 5, 60, 12, 71, 11, 70, 10, 70, 10);
        Check.due("trace -1", x.trace(-1), -1);
        Check.due("trace 20", x.trace(20), -1);
        Check.due("trace far", x.trace(Integer.MAX_VALUE), -1);
        Check.due("trace far below", x.trace(Integer.MIN_VALUE), -1);
    }

    private static void noActs() {
        x = new FoldedInHalf();
        Check.strip(x, 0, 3, "lr");
        x.act(0, 2, 1);
        due("act 3", x.act(0, 3, 5), 0);
        x.act(0, 2, 1);
        due("act -1", x.act(0, -1, 5), 0);
        x.act(0, 2, 1);
        due("act of no strip", x.act(1, 0, 5), 0);
        x.act(0, 2, 1);
        due("act of no strip", x.act(-1, 0, 5), 0);
        for (int what = 11; what <= 17; what++) {
            Check.due("nothing is refused", x.status(what), 0);
        }
    }

    private static void wrapping() {
        x = new FoldedInHalf();
        Check.strip(x, 0, 0, "l");
        Check.strip(x, 1, 1, "l");
        Check.strip(x, 2, 0, "l");
        Check.due("folds wraps", x.act(1, 0, Integer.MAX_VALUE), Integer.MIN_VALUE + 1);
        Check.due("opens wraps", x.act(0, 1, 1 << 30), Integer.MIN_VALUE);
        Check.due("thrice wraps", x.act(2, 1, 1 << 29), (1 << 30) * 3 + 12);
    }

    private static void image() {
        x = new FoldedInHalf();
        Check.due("restore of none", x.restore(), -6);
        Check.strip(x, 1, 3, "lrl");
        Check.strip(x, 4, 9, "ll");
        Check.due("image", x.image(), 2);
        x.turn(0, 1);
        x.turn(1, 0);
        x.drop();
        Check.text(x, 0, "less 0;strip 2 2 r;strip 0 0 l");
        Check.due("read", x.read(0), 3);
        x.act(0, 0, 1);
        Check.text(x, 0, "x");
        x.read(0);
        Check.due("restore", x.restore(), 2);
        Check.due("folds as they were", x.status(1), 5);
        Check.due("letters as they were", x.status(2), 4);
        Check.due("kinds as they were", x.stripOf(1, 0), 4);
        Check.due("letter as it was", x.stripOf(0, 11), 0);
        Check.due("refusals go on", x.status(16), 2);
        Check.due("the fault stays", x.fault(), 0);
        Check.due("the trace stays", x.trace(0), 20);
        Check.due("rows stay", x.holds(0), 100);
        x.turn(0, 0);
        x.drop();
        x.drop();
        Check.due("the image stays", x.restore(), 2);
        Check.due("and is as it was", x.stripOf(0, 10), 1);
        Check.strip(x, 0, 0, "l");
        Check.due("a new image", x.image(), 3);
        x.drop();
        Check.due("restored from it", x.restore(), 3);
        x.drop();
        x.drop();
        x.drop();
        Check.due("an image of none", x.image(), 0);
        Check.strip(x, 0, 0, "l");
        Check.due("restored to none", x.restore(), 0);
        Check.due("none is there", x.creases(0), -1);
    }

    private static void shelvesOfAnImage() {
        x = new FoldedInHalf();
        Check.strip(x, 0, 0, "l");
        x.image();
        Check.strip(x, 3, 0, "ll");
        x.show(0, 0);
        x.show(1, 1);
        Check.row(x, 2, 4);
        x.turn(0, 0);
        Check.due("restore", x.restore(), 1);
        Check.due("a shelf of a strip that is there", x.holds(0), 0);
        Check.due("says the one restored", x.says(0, 0), 1);
        Check.due("a shelf of one that is not", x.holds(1), -1);
        Check.due("a row", x.element(2, 0), 4);
        x.drop();
        Check.strip(x, 3, 0, "ll");
        x.show(0, 0);
        Check.due("of these numbers", x.restore(), 1);
        Check.due("of these numbers", x.says(0, 3), -2);
        Check.due("of these numbers", x.says(0, 0), 1);
    }

    private static void status() {
        x = new FoldedInHalf();
        Check.strip(x, 0, 0, "lrl");
        Check.strip(x, 1, 1, "rrrr");
        Check.strip(x, 6, 1, "llllllllllllllllllllllllllllllllllllllll");
        Check.due("strips", x.status(0), 3);
        Check.due("folds", x.status(1), 47);
        Check.due("letters", x.status(2), 42);
        Check.due("bodies", x.status(3), 0);
        for (int what : new int[] {-1, 4, 9, 10, 18, Integer.MAX_VALUE, Integer.MIN_VALUE}) {
            Check.due("status " + what, x.status(what), -1);
        }
        x.creases(9);
        Check.due("refusals -1", x.status(11), 1);
        x.row(0, 2, 3);
        x.says(0, 0);
        Check.due("refusals -2", x.status(12), 1);
        x.set(1, 0, 0);
        Check.due("refusals -3", x.status(13), 1);
        x.wrong(0, -1);
        Check.due("refusals -4", x.status(14), 1);
        x.when(0, 0, 0, -1);
        Check.due("refusals -5", x.status(15), 1);
        x.words(0, 2, 9);
        Check.due("refusals -5", x.status(15), 2);
        x.orders(9);
        Check.due("refusals -6", x.status(16), 1);
        x.place(2, 200000, 0);
        x.row(0, 0, 161);
        Check.due("refusals -7", x.status(17), 2);
    }
}
