/** Promise 1: a new object. */
public final class NewTest {
    public static void main(String[] args) {
        FoldedInHalf x = new FoldedInHalf();
        Check.due("status(0)", x.status(0), 0);
        Check.due("status(1)", x.status(1), 0);
        Check.due("status(2)", x.status(2), 0);
        Check.due("status(3)", x.status(3), 0);
        for (int what = 11; what <= 17; what++) {
            Check.due("status(" + what + ")", x.status(what), 0);
        }
        for (int s = 0; s < 8; s++) {
            Check.due("holds(" + s + ")", x.holds(s), FoldedInHalf.NONE);
        }
        Check.due("fault()", x.fault(), FoldedInHalf.NONE);
        Check.due("trace(0)", x.trace(0), FoldedInHalf.NONE);
        Check.due("creases(0)", x.creases(0), -1);
        Check.due("restore()", x.restore(), -6);
        Check.due("drop()", x.drop(), -6);
        Check.due("image()", x.image(), 0);
        Check.due("restore()", x.restore(), 0);
        Check.due("NONE", FoldedInHalf.NONE, -1);
        Check.report();
    }
}
