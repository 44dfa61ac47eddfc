/** Promises 10, 11 and 14 to 22: letters and words. */
final class WordsTest {
    public static void main(String[] args) {
        lettersPromise();
        wordPromise();
        joinPromise();
        partPromise();
        turnPromise();
        dropPromise();
        erasePromise();
        readPromises();
        markPromise();
        Check.end();
    }

    private static void lettersPromise() {
        WithinWords x = new WithinWords();
        Check.due("10: letters(6)", x.letters(6), 3);
        Check.due("10: letters(1)", x.letters(1), 6);
        Check.due("10: letters(4)", x.letters(4), 1);
        Check.due("10: letters(0)", x.letters(0), WithinWords.BAD);
        Check.due("10: letters(7)", x.letters(7), WithinWords.BAD);
        Check.due("10: refused", x.count(0), 4);
        Play.word(x, 7, "abca");
        Check.due("10: letters(2)", x.letters(2), WithinWords.STATE);
        Check.due("10: refused", x.count(0), 4);
        Check.due("10: letters(3)", x.letters(3), 4);
        x.erase(7);
        Check.due("10: erased words bind no more", x.letters(1), 3);
    }

    private static void wordPromise() {
        WithinWords x = new WithinWords();
        Check.due("11: word of none", x.word(0, 0), WithinWords.FINDING);
        Check.due("11: NOTHING", x.finding(), 1);
        Play.row(x, 0, 2, 0, 1);
        Check.due("11: word(0, 0)", x.word(0, 0), 3);
        Check.due("11: its letters", Play.read(x, 0), "cab");
        Check.due("11: KIND", x.kind(0), 0);
        x.lay(0, 0, 0);
        Check.due("11: the row may change", Play.read(x, 0), "cab");
        x.lay(0, 2, 3);
        Check.due("11: a letter that is none", x.word(0, 0), WithinWords.FINDING);
        Check.due("11: UNLIKE", x.finding(), 3);
        x.lay(0, 2, -1);
        Check.due("11: a letter that is none", x.word(0, 0), WithinWords.FINDING);
        Check.due("11: refused leaves it", Play.read(x, 0), "cab");
        x.row(0, 40);
        Check.due("11: 40 letters", x.word(0, 0), 40);
        Check.due("11: word(8, 1)", x.word(8, 1), WithinWords.BAD);
        Check.due("11: word(-1, 0)", x.word(-1, 0), WithinWords.BAD);
        Check.due("11: word(0, 6)", x.word(0, 6), WithinWords.BAD);
        x.turn(0, 0, 0);
        Check.due("11: anew", x.word(0, 0), 40);
        Check.due("11: KIND 0 again", x.kind(0), 0);
    }

    private static void joinPromise() {
        WithinWords x = Play.with(3, "ab", "ca", "", "a".repeat(20), "b".repeat(21));
        Check.due("14: join(7, 0, 1)", x.join(7, 0, 1), 4);
        Check.due("14: one behind the other", Play.read(x, 7), "abca");
        Check.due("14: MADE", x.kind(7), 2);
        Check.due("14: of the first", x.mark(7, 2), 0);
        Check.due("14: join(0, 1, 0)", x.join(0, 1, 0), 4);
        Check.due("14: itself behind", Play.read(x, 0), "caab");
        Check.due("14: join(1, 1, 1)", x.join(1, 1, 1), 4);
        Check.due("14: itself twice", Play.read(x, 1), "caca");
        Check.due("14: join(2, 2, 2)", x.join(2, 2, 2), 0);
        Check.due("14: join(5, 3, 3)", x.join(5, 3, 3), 40);
        Check.due("14: join(5, 3, 4)", x.join(5, 3, 4), WithinWords.FULL);
        Check.due("14: refused leaves it", x.letter(5, 39), 0);
        Check.due("14: join(5, 4, 6)", x.join(5, 4, 6), WithinWords.FINDING);
        Check.due("14: join(5, 6, 4)", x.join(5, 6, 4), WithinWords.FINDING);
        Check.due("14: NOTHING", x.findings(1), 2);
        Check.due("14: join(8, 6, 6)", x.join(8, 6, 6), WithinWords.BAD);
        Check.due("14: join(0, 8, 6)", x.join(0, 8, 6), WithinWords.BAD);
        Check.due("14: join(0, 6, -1)", x.join(0, 6, -1), WithinWords.BAD);
    }

    private static void partPromise() {
        WithinWords x = Play.with(3, "abcab");
        Check.due("15: part(1, 0, 1, 3)", x.part(1, 0, 1, 3), 3);
        Check.due("15: its letters", Play.read(x, 1), "bca");
        Check.due("15: MADE", x.kind(1), 2);
        Check.due("15: of which", x.mark(1, 2), 0);
        Check.due("15: part(1, 1, 1, 2)", x.part(1, 1, 1, 2), 2);
        Check.due("15: of itself", Play.read(x, 1), "ca");
        Check.due("15: of itself", x.mark(1, 2), 1);
        Check.due("15: whole", x.part(2, 0, 0, 5), 5);
        Check.due("15: none at the end", x.part(2, 0, 5, 0), 0);
        Check.due("15: beyond the end", x.part(2, 0, 6, 0), WithinWords.FINDING);
        Check.due("15: BEYOND", x.finding(), 2);
        Check.due("15: too many", x.part(2, 0, 3, 3), WithinWords.FINDING);
        Check.due("15: much too many", x.part(2, 0, Integer.MAX_VALUE, Integer.MAX_VALUE), WithinWords.FINDING);
        Check.due("15: ahead of the beginning", x.part(2, 0, -1, 1), WithinWords.FINDING);
        Check.due("15: BEYOND", x.findings(2), 4);
        Check.due("15: of none", x.part(2, 7, 9, 1), WithinWords.FINDING);
        Check.due("15: NOTHING ahead of BEYOND", x.finding(), 1);
        Check.due("15: fewer than none", x.part(2, 7, 9, -1), WithinWords.FINDING);
        Check.due("15: SIZE ahead of NOTHING", x.finding(), 5);
        Check.due("15: part(8, 0, 0, -1)", x.part(8, 0, 0, -1), WithinWords.BAD);
        Check.due("15: part(0, 8, 0, 0)", x.part(0, 8, 0, 0), WithinWords.BAD);
    }

    private static void turnPromise() {
        WithinWords x = Play.with(4, "abcc", "");
        Check.due("16: turn(2, 0, 0)", x.turn(2, 0, 0), 4);
        Check.due("16: from its end", Play.read(x, 2), "ccba");
        Check.due("16: TURNED", x.kind(2), 3);
        Check.due("16: how", x.mark(2, 3), 0);
        Check.due("16: of which", x.mark(2, 2), 0);
        Check.due("16: turn(0, 0, 1)", x.turn(0, 0, 1), 4);
        Check.due("16: k - 1 less x", Play.read(x, 0), "dcbb");
        Check.due("16: how", x.mark(0, 3), 1);
        Check.due("16: turn(0, 0, 0)", x.turn(0, 0, 0), 4);
        Check.due("16: itself", Play.read(x, 0), "bbcd");
        Check.due("16: of none", x.turn(1, 1, 0), 0);
        Check.due("16: turn(1, 0, 2)", x.turn(1, 0, 2), WithinWords.BAD);
        Check.due("16: turn(1, 7, -1)", x.turn(1, 7, -1), WithinWords.BAD);
        Check.due("16: turn(8, 0, 0)", x.turn(8, 0, 0), WithinWords.BAD);
        Check.due("16: turn(0, -1, 0)", x.turn(0, -1, 0), WithinWords.BAD);
        Check.due("16: turn(0, 7, 0)", x.turn(0, 7, 0), WithinWords.FINDING);
        Check.due("16: NOTHING", x.finding(), 1);
    }

    private static void dropPromise() {
        WithinWords x = Play.with(2, "aabbab", "a".repeat(40), "abab");
        Check.due("17: drop(7, 0, 1)", x.drop(7, 0, 1), 2);
        Check.due("17: to the depth 1", Play.read(x, 7), "ab");
        Check.due("17: DROPPED", x.kind(7), 4);
        Check.due("17: depth", x.mark(7, 4), 1);
        Check.due("17: of which", x.mark(7, 2), 0);
        Check.due("17: drop(7, 0, 2)", x.drop(7, 0, 2), 4);
        Check.due("17: to the depth 2", Play.read(x, 7), "abab");
        Check.due("17: drop(7, 0, 0)", x.drop(7, 0, 0), 0);
        Check.due("17: drop(7, 0, 40)", x.drop(7, 0, 40), 6);
        Check.due("17: drop(6, 1, 40)", x.drop(6, 1, 40), 40);
        Check.due("17: drop(6, 1, 39)", x.drop(6, 1, 39), 39);
        Check.due("17: drop(1, 1, 7)", x.drop(1, 1, 7), 7);
        Check.due("17: itself", x.mark(1, 2), 1);
        Check.due("17: drop(7, 2, 41)", x.drop(7, 2, 41), WithinWords.BAD);
        Check.due("17: drop(7, 5, -1)", x.drop(7, 5, -1), WithinWords.BAD);
        Check.due("17: drop(8, 5, 1)", x.drop(8, 5, 1), WithinWords.BAD);
        Check.due("17: drop(0, 8, 1)", x.drop(0, 8, 1), WithinWords.BAD);
        Check.due("17: drop(0, 5, 1)", x.drop(0, 5, 1), WithinWords.FINDING);
        Check.due("17: NOTHING", x.finding(), 1);
    }

    private static void erasePromise() {
        WithinWords x = Play.with(3, "ab", "c");
        Check.due("18: erase(0)", x.erase(0), 1);
        Check.due("18: it is missing", x.size(0), WithinWords.FINDING);
        Check.due("18: the other is not", x.size(1), 1);
        Check.due("18: erase(0) again", x.erase(0), WithinWords.FINDING);
        Check.due("18: NOTHING", x.finding(), 1);
        Check.due("18: erase(8)", x.erase(8), WithinWords.BAD);
        Check.due("18: erase(-1)", x.erase(-1), WithinWords.BAD);
    }

    private static void readPromises() {
        WithinWords x = Play.with(3, "cb", "");
        Check.due("19: size(0)", x.size(0), 2);
        Check.due("19: size(1)", x.size(1), 0);
        Check.due("19: size(2)", x.size(2), WithinWords.FINDING);
        Check.due("19: size(8)", x.size(8), WithinWords.BAD);
        Check.due("20: letter(0, 0)", x.letter(0, 0), 2);
        Check.due("20: letter(0, 1)", x.letter(0, 1), 1);
        Check.due("21: kind(2)", x.kind(2), WithinWords.FINDING);
        Check.due("19, 21: NOTHING", x.findings(1), 2);
        Check.due("20: letter(2, 0)", x.letter(2, 0), WithinWords.FINDING);
        Check.due("20: NOTHING ahead of BEYOND", x.findings(1), 3);
        Check.due("20: letter(0, 2)", x.letter(0, 2), WithinWords.FINDING);
        Check.due("20: letter(0, -1)", x.letter(0, -1), WithinWords.FINDING);
        Check.due("20: letter(1, 0)", x.letter(1, 0), WithinWords.FINDING);
        Check.due("20: BEYOND", x.findings(2), 3);
        Check.due("20: letter(8, 0)", x.letter(8, 0), WithinWords.BAD);
        Check.due("21: kind(0)", x.kind(0), 0);
        Check.due("21: kind(-1)", x.kind(-1), WithinWords.BAD);
        Check.due("21: kind(8)", x.kind(8), WithinWords.BAD);
    }

    /** Rows: a WORD of each KIND; columns: KINDS 1 .. 4; -3: it is none of that KIND. */
    private static void markPromise() {
        WithinWords x = Play.with(3, "abca", "bb");
        Play.text(x, 0, " ab2 ");
        x.tell(2, 0);
        x.join(3, 1, 0);
        x.turn(4, 3, 1);
        x.drop(5, 4, 9);
        x.part(6, 5, 0, 1);
        int[] which = {0, 2, 3, 4, 5, 6};
        int[] kinds = {0, 1, 2, 3, 4, 2};
        int[][] marks = {{-3, -3, -3, -3}, {5, -3, -3, -3}, {-3, 1, -3, -3},
            {-3, 3, 1, -3}, {-3, 4, -3, 9}, {-3, 5, -3, -3}};
        int unlike = 0;
        for (int i = 0; i < which.length; i++) {
            Check.due("21: kind(" + which[i] + ")", x.kind(which[i]), kinds[i]);
            for (int kind = 1; kind <= 4; kind++) {
                int want = marks[i][kind - 1];
                Check.due("22: mark(" + which[i] + ", " + kind + ")", x.mark(which[i], kind), want);
                unlike += want == -3 ? 1 : 0;
            }
        }
        Check.due("22: UNLIKE", x.findings(3), unlike);
        Check.due("22: mark(7, 1)", x.mark(7, 1), WithinWords.FINDING);
        Check.due("22: NOTHING", x.finding(), 1);
        Check.due("22: mark(7, 0)", x.mark(7, 0), WithinWords.BAD);
        Check.due("22: mark(7, 5)", x.mark(7, 5), WithinWords.BAD);
        Check.due("22: mark(8, 1)", x.mark(8, 1), WithinWords.BAD);
        Check.due("22: mark(-1, 1)", x.mark(-1, 1), WithinWords.BAD);
    }
}
