/** Promises 25 to 30: words told from creases, mended, judged; words by their ends; pieces. */
public final class WordsTest {
    private static FoldedInHalf x;

    public static void main(String[] args) {
        words();
        wrongAndMend();
        toldRefusals();
        judge();
        ends();
        piece();
        Check.report();
    }

    private static void counted(String what, int refusal, long want) {
        Check.due("refusals " + refusal + " behind " + what, x.status(10 - refusal), want);
    }

    private static void words() {
        x = new FoldedInHalf();
        // CREASES 1 to 7 of lrl: 1 0 0 1 1 1 0.
        Check.row(x, 0, 1, 0, 0, 1, 1, 1, 0);
        Check.due("words, all told", x.words(0, 7, -1), 0);
        Check.due("words, letter 0", x.words(0, 7, 0), 1);
        Check.due("words, letter 1", x.words(0, 7, 1), 0);
        Check.due("words, letter 2", x.words(0, 7, 2), 1);
        Check.due("words, level 3", x.words(0, 7, 3), -15);
        Check.due("words, level 2 is not reached", x.words(0, 3, 2), -15);
        Check.due("words, what -2", x.words(0, 7, -2), -15);
        Check.due("words, what far below", x.words(0, 7, Integer.MIN_VALUE), -15);
        Check.due("words of none told", x.words(0, 0, -1), 0);
        Check.due("words of none told, level 0", x.words(0, 0, 0), -15);
        Check.row(x, 1, 2, 2, 0, -1, 7, 2, 2, 2);
        Check.due("words, few seen", x.words(1, 8, -1), 3);
        Check.due("words, crease 3 is the other one", x.words(1, 8, 0), 1);
        Check.due("words, free: 0 ahead", x.words(1, 8, 1), 0);
        Check.due("words, free: 0 ahead", x.words(1, 8, 3), 0);
        Check.due("words, two seen none", x.words(1, 2, -1), 2);
        Check.row(x, 2, 1, 2, 1);
        Check.due("words, none fits", x.words(2, 3, -1), -1);
        Check.due("words, none fits, a letter", x.words(2, 3, 0), -15);
        Check.due("words, fits so far", x.words(2, 2, -1), 1);
        x.row(3, 2, 100);
        Check.due("words, 64", x.words(3, 64, 99), -16);
        Check.due("words, 63, none fits", x.words(3, 63, 0), -15);
        x.row(4, 3, 1);
        x.set(4, 0, (7L << 32) + 1);
        Check.due("words, longs by their lowest 32 bits", x.words(4, 1, 0), 1);
        Check.due("words, longs by their lowest 32 bits", x.words(4, 1, -1), 0);
        counted("words", -5, 7);
        counted("words", -6, 1);
    }

    private static void wrongAndMend() {
        x = new FoldedInHalf();
        Check.row(x, 0, 1, 0, 0, 1, 1, 1, 0, 0);
        Check.due("wrong: none", x.wrong(0, 8), -1);
        Check.due("mend: none", x.mend(0, 8), 0);
        Check.due("wrong of none", x.wrong(0, 0), -1);
        Check.due("mend of none", x.mend(0, 0), 0);
        x.set(0, 5, 0);
        Check.due("wrong: crease 6 against crease 2", x.wrong(0, 8), 6);
        Check.due("wrong: not yet", x.wrong(0, 5), -1);
        Check.due("wrong: at the last", x.wrong(0, 6), 6);
        Check.due("mend: one", x.mend(0, 8), 1);
        x.set(0, 2, 1);
        Check.due("wrong: crease 3 against crease 1", x.wrong(0, 8), 3);
        Check.due("mend: two", x.mend(0, 8), 2);
        x.set(0, 1, 3);
        Check.due("mend: an unseen one is no fault", x.mend(0, 8), 1);
        // All 1: half of the creases of a level but the last have to be turned.
        x.row(1, 0, 63);
        for (int i = 0; i < 63; i++) {
            x.set(1, i, 1);
        }
        Check.due("mend: 63 alike", x.mend(1, 63), 16 + 8 + 4 + 2 + 1);
        Check.due("wrong: 63 alike", x.wrong(1, 63), 3);
        Check.due("mend: 62 alike", x.mend(1, 62), 31 - 1);
    }

    private static void toldRefusals() {
        x = new FoldedInHalf();
        x.row(0, 2, 70);
        Check.row(x, 1, 1);
        Check.strip(x, 0, 0, "l");
        x.show(2, 0);
        int[] shelves = {8, -1, 2, 3, 0, 1, 0, 1};
        int[] sizes = {-1, 0, -1, -1, -1, 64, 64, 2};
        int[] due = {-1, -1, -2, -3, -4, -5, -6, -5};
        for (int i = 0; i < due.length; i++) {
            int s = shelves[i];
            int n = sizes[i];
            Check.due("words " + s + " " + n, x.words(s, n, -1), due[i] - 10);
            Check.due("wrong " + s + " " + n, x.wrong(s, n), due[i] - 10);
            Check.due("mend " + s + " " + n, x.mend(s, n), due[i]);
        }
        Check.due("words: fewer elements ahead of n", x.words(1, 64, 0), -15);
        counted("words, wrong, mend", -1, 6);
        counted("words, wrong, mend", -2, 3);
        counted("words, wrong, mend", -3, 3);
        counted("words, wrong, mend", -4, 3);
        counted("words, wrong, mend", -5, 7);
        counted("words, wrong, mend", -6, 3);
    }

    private static void judge() {
        x = new FoldedInHalf();
        Check.strip(x, 0, 0, "lrl");
        Check.strip(x, 4, 2, "lrl");
        Check.strip(x, 0, 0, "lrlrlrlr");
        Check.row(x, 0, 1, 0, 0, 1, 1, 1, 0);
        Check.due("judge: as told", x.judge(0, 0, 7), -1);
        Check.due("judge: none told", x.judge(0, 0, 0), -1);
        Check.due("judge of another kind", x.judge(1, 0, 5), 4);
        x.set(0, 3, 5);
        Check.due("judge: not seen", x.judge(1, 0, 5), -1);
        x.set(0, 6, 1);
        Check.due("judge: the last", x.judge(0, 0, 7), 7);
        Check.due("judge: not the one behind it", x.judge(0, 0, 6), -1);
        x.set(0, 0, 0);
        Check.due("judge: the first", x.judge(0, 0, 7), 1);
        x.row(1, 2, 64);
        x.row(2, 2, 63);
        Check.due("judge: no strip", x.judge(3, 0, -1), -11);
        Check.due("judge: no shelf", x.judge(0, 8, -1), -11);
        Check.due("judge: nothing", x.judge(0, 4, -1), -13);
        x.show(3, 0);
        Check.due("judge: a strip", x.judge(0, 3, -1), -12);
        Check.due("judge: below", x.judge(0, 0, -1), -14);
        Check.due("judge: fewer elements", x.judge(2, 0, 8), -15);
        Check.due("judge: fewer creases", x.judge(0, 1, 8), -15);
        Check.due("judge: fewer creases ahead of n", x.judge(0, 1, 64), -15);
        Check.due("judge: 64", x.judge(2, 1, 64), -16);
        Check.due("judge: 63", x.judge(2, 2, 63), 1);
        counted("judge", -1, 2);
        counted("judge", -2, 1);
        counted("judge", -3, 1);
        counted("judge", -4, 1);
        counted("judge", -5, 3);
        counted("judge", -6, 1);
    }

    private static void ends() {
        x = new FoldedInHalf();
        Check.due("ends: l", x.ends(1, 1, 1, 0), 1);
        Check.due("ends: l", x.ends(1, 1, 1, 1), 1);
        Check.due("ends: r", x.ends(1, 1, -1, 1), 0);
        Check.due("ends: lr, rl", x.ends(2, 2, 0, 0), 2);
        Check.due("ends: lr first", x.ends(2, 2, 0, 1), 1);
        Check.due("ends: ll", x.ends(2, 0, 2, 1), 3);
        Check.due("ends: rr", x.ends(2, 0, -2, 1), 0);
        Check.due("ends: nowhere", x.ends(2, 1, 1, 0), 0);
        Check.due("ends: nowhere, first", x.ends(2, 1, 1, 1), -5);
        Check.due("ends: what 2 ahead of f", x.ends(0, 1, 1, 2), -5);
        Check.due("ends: what -1", x.ends(1, 1, 1, -1), -5);
        Check.due("ends: f 0", x.ends(0, 1, 0, 1), -6);
        Check.due("ends: f 11", x.ends(11, 0, 0, 1), -6);
        Check.due("ends: f below", x.ends(Integer.MIN_VALUE, 0, 0, 0), -6);
        counted("ends", -5, 3);
        counted("ends", -6, 3);
        for (int f = 1; f <= 10; f++) {
            int all = 0;
            for (int u = -32; u <= 32; u++) {
                for (int v = -32; v <= 32; v++) {
                    all += x.ends(f, u, v, 0);
                }
            }
            Check.due("ends: every word of " + f + " levels ends", all, 1 << f);
        }
        byTheFirst();
    }

    /** The strip by the first word ends there. */
    private static void byTheFirst() {
        x = new FoldedInHalf();
        int word = x.ends(6, 0, -8, 1);
        x.row(0, 2, 6);
        for (int level = 0; level < 6; level++) {
            x.set(0, level, word >> level & 1);
        }
        x.strip(0, 0, 0, 6);
        Check.due("ends where told, x", x.place(0, 64, 0), 0);
        Check.due("ends where told, y", x.place(0, 64, 1), -8);
    }

    private static void piece() {
        x = new FoldedInHalf();
        Check.strip(x, 0, 0, "lrl");
        Check.strip(x, 0, 0, "lllllllllllll");
        Check.strip(x, 0, 0, "r");
        // 1 0 0 1 1 1 0
        Check.row(x, 0, 1, 2);
        Check.due("piece: any behind a 1", x.piece(0, 0, 2, 0), 4);
        Check.due("piece: one 1", x.piece(0, 0, 1, 0), 4);
        Check.due("piece: first", x.piece(0, 0, 2, 1), 1);
        Check.row(x, 0, 1, 1);
        Check.due("piece: 11", x.piece(0, 0, 2, 0), 2);
        Check.due("piece: 11 first", x.piece(0, 0, 2, 1), 4);
        Check.row(x, 0, 0, 2, 1, 1, 1);
        Check.due("piece: 0?111", x.piece(0, 0, 5, 0), 1);
        Check.due("piece: 0?111 first", x.piece(0, 0, 5, 1), 2);
        Check.row(x, 0, 0, 0, 0);
        Check.due("piece: nowhere", x.piece(0, 0, 3, 0), 0);
        Check.due("piece: nowhere, first", x.piece(0, 0, 3, 1), -5);
        Check.row(x, 0, 2, 2, 2, 2, 2, 2, 2, 2);
        Check.due("piece: anywhere", x.piece(0, 0, 7, 0), 1);
        Check.due("piece: longer than the strip", x.piece(0, 0, 8, 0), 0);
        Check.due("piece: no farther than 4000", x.piece(1, 0, 8, 0), 4000 - 7);
        x.row(1, 2, 41);
        for (int i = 0; i < 41; i++) {
            x.set(1, i, x.crease(1, 3961 + i));
        }
        Check.due("piece: 40 of them, the last ones", x.piece(1, 1, 40, 0) > 0 ? 1 : 0, 1);
        Check.due("piece: 41", x.piece(1, 1, 41, 0), -6);
        Check.due("piece: 0", x.piece(1, 1, 0, 1), -6);
        Check.due("piece: no strip", x.piece(3, 0, -1, 0), -1);
        Check.due("piece: no shelf", x.piece(0, -1, -1, 0), -1);
        Check.due("piece: nothing", x.piece(0, 5, -1, 0), -3);
        x.show(5, 0);
        Check.due("piece: a strip", x.piece(0, 5, -1, 0), -2);
        Check.due("piece: below, another what", x.piece(0, 0, -1, 2), -4);
        Check.due("piece: fewer elements", x.piece(0, 0, 9, 0), -5);
        Check.due("piece: another what ahead of n", x.piece(0, 1, 41, 2), -5);
        Check.due("piece: another what", x.piece(0, 0, 1, -1), -5);
        Check.due("piece: of one crease", x.piece(2, 0, 1, 1), 1);
        counted("piece", -1, 2);
        counted("piece", -2, 1);
        counted("piece", -3, 1);
        counted("piece", -4, 1);
        counted("piece", -5, 4);
        counted("piece", -6, 2);
    }
}
