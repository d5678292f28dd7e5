import java.io.IOException;
import java.nio.file.Files;
import java.nio.file.Path;
import java.util.Arrays;
import java.util.function.LongSupplier;

/**
 * What the tests of the document's sentences share. Each test begins with says(..), which quotes its
 * sentence: the quote must stand in the document, and whatever no test quotes is told by report().
 */
class Edge {
    static final long FAR = -2000000000000000L;
    static final String L40 = "llllllllllllllllllllllllllllllllllllllll";
    static final int NONE = FoldedInHalf.NONE;

    /** The words of the document that say nothing by themselves. */
    private static final String[] HEADINGS = {
        "STRIPS", "```text", "```text", "```text", "==== 2. CREASES", "==== 3. WHAT COMES OF IT",
        "BODIES, each with its number:"};

    /** Section 0 is that of the terms, the others are the promises. */
    private static final String[] SECTIONS = new String[41];
    private static final boolean[][] QUOTED = new boolean[41][];

    /** A new object for each sentence. */
    static FoldedInHalf x;
    private static String sentence = "";
    private static int checks = 0;
    private static int sentences = 0;

    static void open(String path) throws IOException {
        String document = Files.readString(Path.of(path));
        int begin = document.indexOf("## Terms") + "## Terms".length();
        for (int section = 0; section <= 40; section++) {
            String heading = section == 40 ? "## Not promised" : "## Promise " + (section + 1) + ":";
            int end = document.indexOf(heading);
            String text = document.substring(begin, end);
            if (section > 0) {
                text = text.substring(text.indexOf("`:") + 2);
            }
            SECTIONS[section] = text.replaceAll("\\s+", " ");
            QUOTED[section] = new boolean[SECTIONS[section].length()];
            begin = end;
        }
        for (String heading : HEADINGS) {
            quote(0, heading);
        }
    }

    /** Where the words stand at a place of which no other test has quoted anything; -1: nowhere. */
    private static int quote(int section, String words) {
        String text = SECTIONS[section];
        for (int at = text.indexOf(words); at >= 0; at = text.indexOf(words, at + 1)) {
            boolean free = true;
            for (int i = at; i < at + words.length(); i++) {
                free &= !QUOTED[section][i];
            }
            if (free) {
                Arrays.fill(QUOTED[section], at, at + words.length(), true);
                return at;
            }
        }
        return -1;
    }

    static void says(int section, String words) {
        x = new FoldedInHalf();
        checks = 0;
        sentences++;
        sentence = (section == 0 ? "terms" : "promise " + section) + ", '" + words + "'";
        Check.holds(sentence + " stands in the document", quote(section, words) >= 0);
    }

    static void is(long got, long want) {
        checks++;
        Check.due(sentence + ", check " + checks, got, want);
    }

    static void holds(boolean stands) {
        is(stands ? 1 : 0, 1);
    }

    /** A refused call: it answers so, counts one more refusal of its number, and changes nothing. */
    static void no(long want, LongSupplier call) {
        long far = want < FAR ? FAR - want : -want;
        int number = (int) (far > 10 ? far - 10 : far);
        String ahead = state();
        int fault = x.fault();
        int[] counts = counts();
        is(call.getAsLong(), want);
        counts[number]++;
        Check.holds(sentence + ", counted, check " + checks, Arrays.equals(counts, counts()));
        Check.due(sentence + ", state, check " + checks, state().equals(ahead) ? 1 : 0, 1);
        Check.due(sentence + ", fault, check " + checks, x.fault(), fault);
    }

    /** A text that read() refuses, and where its FAULT is. */
    static void fault(String text, int place) {
        Check.text(x, 6, text);
        String ahead = state();
        int[] counts = counts();
        is(x.read(6), -6);
        counts[6]++;
        Check.holds(sentence + ", counted, '" + text + "'", Arrays.equals(counts, counts()));
        Check.due(sentence + ", state, '" + text + "'", state().equals(ahead) ? 1 : 0, 1);
        Check.due(sentence + ", fault of '" + text + "'", x.fault(), place);
    }

    static void reads(String text, int items) {
        Check.text(x, 6, text);
        is(x.read(6), items);
        Check.due(sentence + ", no fault of '" + text + "'", x.fault(), NONE);
    }

    /** How many refusals of each number there were. */
    private static int[] counts() {
        int[] counts = new int[8];
        for (int number = 1; number <= 7; number++) {
            counts[number] = x.status(10 + number);
        }
        return counts;
    }

    /** All that can be seen without a refusal, but the FAULT. */
    private static String state() {
        StringBuilder all = new StringBuilder();
        for (int what = 0; what < 4; what++) {
            all.append(x.status(what)).append(' ');
        }
        for (int i = 0; i < 20; i++) {
            all.append(x.trace(i)).append(' ');
        }
        for (int strip = 0; strip < x.status(0); strip++) {
            for (int what = 0; what < 10 + x.stripOf(strip, 2); what = what == 2 ? 10 : what + 1) {
                all.append(x.stripOf(strip, what)).append(' ');
            }
        }
        for (int s = 0; s < 8; s++) {
            all.append(x.holds(s)).append(':');
            for (int i = 0; x.holds(s) >= 100 && i < 161; i++) {
                all.append(x.element(s, i)).append(' ');
            }
        }
        return all.toString();
    }

    static int strip(int kind, int a, String word) {
        return Check.strip(x, kind, a, word);
    }

    /** CREASES 1 and on, as letters. */
    static void bends(int strip, String letters) {
        is(x.creases(strip), letters.length());
        for (int n = 1; n <= letters.length(); n++) {
            is(x.crease(strip, n), letters.charAt(n - 1) == 'l' ? 1 : 0);
        }
    }

    /** PLACES 0 and on: x, y, x, y, .. */
    static void places(int strip, int... all) {
        for (int n = 0; n < all.length / 2; n++) {
            is(x.place(strip, n, 0), all[2 * n]);
            is(x.place(strip, n, 1), all[2 * n + 1]);
        }
    }

    static void row(int s, int... elements) {
        Check.row(x, s, elements);
    }

    /** What of the document no test has quoted. */
    static void report() {
        for (int section = 0; section <= 40; section++) {
            StringBuilder left = new StringBuilder();
            for (int i = 0; i < QUOTED[section].length; i++) {
                left.append(QUOTED[section][i] ? '\n' : SECTIONS[section].charAt(i));
            }
            for (String words : left.toString().split("\n+")) {
                boolean none = words.replaceAll("[^A-Za-z0-9]", "").isEmpty();
                Check.holds("section " + section + ", no test quotes '" + words + "'", none);
            }
        }
        System.out.println(sentences + " sentences of the document");
        Check.report();
    }
}
