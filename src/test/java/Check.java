import java.nio.charset.StandardCharsets;

/** Counts answers that are not due; every test class ends with report(). */
final class Check {
    private static int checks = 0;
    private static int faults = 0;

    private Check() {
    }

    static void due(String what, long got, long want) {
        checks++;
        if (got != want) {
            faults++;
            if (faults <= 50) {
                System.out.println(what + " answered " + got + ", due is " + want);
            }
        }
    }

    static void holds(String what, boolean stands) {
        due(what, stands ? 1 : 0, 1);
    }

    /** Puts the elements into a new ROW of ints. */
    static void row(FoldedInHalf x, int shelf, int... elements) {
        x.row(shelf, 2, elements.length);
        for (int i = 0; i < elements.length; i++) {
            x.set(shelf, i, elements[i]);
        }
    }

    static void text(FoldedInHalf x, int shelf, String text) {
        byte[] signs = text.getBytes(StandardCharsets.ISO_8859_1);
        x.row(shelf, 0, signs.length);
        for (int i = 0; i < signs.length; i++) {
            x.set(shelf, i, signs[i]);
        }
    }

    /** A STRIP whose WORD is told as letters l and r. */
    static int strip(FoldedInHalf x, int kind, int a, String word) {
        int[] letters = new int[word.length()];
        for (int i = 0; i < letters.length; i++) {
            letters[i] = word.charAt(i) == 'l' ? 1 : 0;
        }
        row(x, 7, letters);
        return x.strip(kind, a, 7, letters.length);
    }

    static void report() {
        System.out.println(checks + " answers, " + faults + " not due");
        if (faults != 0) {
            System.exit(1);
        }
    }
}
