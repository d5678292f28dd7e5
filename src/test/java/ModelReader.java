import java.util.ArrayList;
import java.util.Arrays;
import java.util.List;

/** Reads a set of strips element by element, as an automaton that asks after each one whether it stands. */
final class ModelReader {
    final List<Model.Piece> draft;
    final String text;
    int fault = Model.NONE;
    private int at = 0;

    /** Left behind at the first element that can't stand. */
    private static final class Fault extends RuntimeException {
        private static final long serialVersionUID = 1L;
        final int place;

        Fault(int place) {
            super(null, null, false, false);
            this.place = place;
        }
    }

    ModelReader(String text, List<Model.Piece> strips) {
        this.text = text;
        this.draft = new ArrayList<>(strips);
    }

    int items() {
        try {
            int items = 0;
            do {
                if (items > 0) sign(';');
                item();
                items++;
            } while (at < text.length());
            return items;
        } catch (Fault found) {
            fault = found.place;
            return 0;
        }
    }

    private char next() {
        return at < text.length() ? text.charAt(at) : '\0';
    }

    private void sign(char sign) {
        if (next() != sign) throw new Fault(at);
        at++;
    }

    private void item() {
        int begin = at;
        switch (next()) {
            case 's': word("strip"); strip(begin); break;
            case 't': word("turn"); turn(); break;
            case 'l': word("less"); less(); break;
            default: throw new Fault(at);
        }
    }

    private void word(String word) {
        for (char sign : word.toCharArray()) sign(sign);
    }

    private String run(String signs, int most) {
        int begin = at;
        while (at < text.length() && at - begin < most && signs.indexOf(text.charAt(at)) >= 0) at++;
        if (at == begin) throw new Fault(at);
        return text.substring(begin, at);
    }

    private int number(int bound) {
        int begin = at;
        java.math.BigInteger number = new java.math.BigInteger(run("0123456789", 160));
        if (number.bitLength() > 30 || number.intValue() >= bound) throw new Fault(begin);
        return number.intValue();
    }

    private void strip(int begin) {
        if (draft.size() == 8) throw new Fault(begin);
        sign(' ');
        int kind = number(7);
        sign(' ');
        int a = Integer.parseInt(run("0123456789", 6));
        sign(' ');
        String letters = run("lr", kind == 2 ? 25 : 40);
        int[] word = new int[letters.length()];
        Arrays.setAll(word, i -> letters.charAt(i) == 'l' ? 1 : 0);
        draft.add(new Model.Piece(kind, a, word));
    }

    private void turn() {
        sign(' ');
        int number = number(draft.size());
        sign(' ');
        Model.Piece piece = draft.get(number);
        int level = number(piece.word.length);
        draft.set(number, piece.withLetter(level, 1 - piece.word[level]));
    }

    private void less() {
        sign(' ');
        int begin = at;
        int number = number(draft.size());
        if (draft.get(number).word.length < 2) throw new Fault(begin);
        draft.set(number, draft.get(number).shorter());
    }
}
