/** Lays words, rows and texts by the class's own calls; letters are written a .. f. */
final class Play {
    /** The row by which words are laid; tests that use it keep out of its way. */
    static final int SCRATCH = 5;

    private Play() {
    }

    static void row(WithinWords x, int r, int... values) {
        Check.due("row(" + r + ", " + values.length + ")", x.row(r, values.length), values.length);
        for (int i = 0; i < values.length; i++) {
            Check.due("lay(" + r + ", " + i + ", " + values[i] + ")", x.lay(r, i, values[i]), 1);
        }
    }

    static void word(WithinWords x, int w, String letters) {
        int[] values = new int[letters.length()];
        for (int i = 0; i < values.length; i++) {
            values[i] = letters.charAt(i) - 'a';
        }
        row(x, SCRATCH, values);
        Check.due("word(" + w + ", " + SCRATCH + ") of " + letters, x.word(w, SCRATCH), values.length);
    }

    static void text(WithinWords x, int t, String signs) {
        Check.due("text(" + t + ", " + signs.length() + ")", x.text(t, signs.length()), signs.length());
        for (int i = 0; i < signs.length(); i++) {
            Check.due("put(" + t + ", " + i + ")", x.put(t, i, signs.charAt(i)), 1032);
        }
    }

    static String read(WithinWords x, int w) {
        StringBuilder letters = new StringBuilder();
        int size = x.size(w);
        for (int i = 0; i < size; i++) {
            letters.append((char) ('a' + x.letter(w, i)));
        }
        return letters.toString();
    }

    /** A row as numbers with commas; asks for one place too many, which is a finding. */
    static String readRow(WithinWords x, int r) {
        StringBuilder values = new StringBuilder();
        for (int i = 0; i <= 40 && x.at(r, i) == 1; i++) {
            values.append(i == 0 ? "" : ",").append(x.asked());
        }
        return values.toString();
    }

    /** A row of letters as a word. */
    static String readLetters(WithinWords x, int r) {
        StringBuilder letters = new StringBuilder();
        for (int i = 0; i <= 40 && x.at(r, i) == 1; i++) {
            letters.append((char) ('a' + x.asked()));
        }
        return letters.toString();
    }

    static WithinWords with(int k, String... words) {
        WithinWords x = new WithinWords();
        Check.due("letters(" + k + ")", x.letters(k), 3);
        for (int w = 0; w < words.length; w++) {
            word(x, w, words[w]);
        }
        return x;
    }
}
