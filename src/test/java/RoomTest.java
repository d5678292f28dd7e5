import java.lang.management.ManagementFactory;
import java.util.function.LongSupplier;

/** An object is used for 512 calls: its 512th answers as its first, and a run takes little of the room. */
public final class RoomTest {
    private static final int CALLS = 512;
    // An object takes 16 bytes at least and an element one: so this stays far under what a run may make.
    private static final long MOST_BYTES = 1 << 20;
    private static final String L40 = "llllllllllllllllllllllllllllllllllllllll";
    private static final com.sun.management.ThreadMXBean THREADS =
        (com.sun.management.ThreadMXBean) ManagementFactory.getThreadMXBean();

    private static FoldedInHalf x;

    public static void main(String[] args) {
        for (int kind = 0; kind < 7; kind++) {
            int of = kind;
            dear("way of " + kind, of, () -> x.way(0, 847288000000L));
            dear("place of " + kind, of, () -> x.place(0, of == 6 ? 99999 : 847288000000L, 0));
            dear("most of " + kind, of, () -> x.most(0, 4000));
            dear("twice of " + kind, of, () -> x.twice(0, 4000));
            dear("cover of " + kind, of, () -> x.cover(0, 4000));
            dear("passed of " + kind, of, () -> x.passed(0, 4000, 1, 0));
            dear("when of " + kind, of, () -> x.when(0, 1, 0, 3));
            dear("near of " + kind, of, () -> x.near(0, 0, 4000, 1, 0, 1));
            dear("four of " + kind, of, () -> x.four(0, 1000));
            dear("piece of " + kind, of, () -> x.piece(0, 0, 40, 0));
            dear("judge of " + kind, of, () -> x.judge(0, 0, 63));
            dear("act of " + kind, of, () -> x.act(0, 2, 9));
            dear("turn twice of " + kind, of, () -> x.turn(0, 0) + x.turn(0, 0));
        }
        dear("read", 0, () -> x.read(1));
        dear("words", 0, () -> x.words(0, 63, -1));
        dear("wrong", 0, () -> x.wrong(0, 63));
        dear("mend", 0, () -> x.mend(0, 63));
        dear("ends", 0, () -> x.ends(10, 0, 32, 1));
        dear("can", 0, () -> x.can(2, 8));
        dear("orders", 0, () -> x.orders(8));
        dear("order", 0, () -> x.order(8, 1391, 7));
        dear("page", 0, () -> x.page(6, 33));
        dear("row", 0, () -> x.row(3, 3, 160));
        dear("image", 0, () -> x.image() + x.restore());
        dear("status", 0, () -> x.status(2));
        Check.report();
    }

    private static void dear(String what, int kind, LongSupplier call) {
        long thread = Thread.currentThread().getId();
        long ahead = THREADS.getThreadAllocatedBytes(thread);
        begin(kind);
        long first = call.getAsLong();
        long last = first;
        for (int i = 1; i < CALLS; i++) {
            last = call.getAsLong();
        }
        long bytes = THREADS.getThreadAllocatedBytes(thread) - ahead;
        Check.due(what + ", call " + CALLS, last, first);
        Check.holds(what + " takes " + bytes + " bytes", bytes < MOST_BYTES);
    }

    /** SHELF 0: 64 told creases, 1: a set that turns a letter to and fro, 2: an ORDER. */
    private static void begin(int kind) {
        x = new FoldedInHalf();
        Check.strip(x, kind, 654321, kind == 2 ? L40.substring(15) : L40);
        x.row(0, 0, 64);
        StringBuilder set = new StringBuilder("turn 0 0");
        for (int i = 1; i < 16; i++) {
            set.append(";turn 0 0");
        }
        Check.text(x, 1, set.toString());
        Check.row(x, 2, 7, 6, 5, 4, 3, 2, 1, 0);
    }
}
