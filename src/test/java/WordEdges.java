/** Promises 10, 11 and 14 to 22, sentence by sentence. */
final class WordEdges {
    private static final int BAD = WithinWords.BAD, FULL = WithinWords.FULL, STATE = WithinWords.STATE;
    private static final int NOTHING = 1, BEYOND = 2, UNLIKE = 3, SIZE = 5;
    private static final String A40 = "a".repeat(40);

    private WordEdges() {
    }

    static void all() {
        Sentence.of(10, "There are k LETTERS (1 .. 6): how many there were.", WordEdges::letters);
        Sentence.of(10, "BAD", WordEdges::lettersBad);
        Sentence.of(10, "STATE: a WORD has one that would not be there.", WordEdges::lettersState);
        Sentence.of(11, "A WORD of a ROW's LETTERS (anew; KIND 0): how many.", WordEdges::word);
        Sentence.of(11, "BAD", WordEdges::wordBad);
        Sentence.of(11, "NOTHING", WordEdges::wordNothing);
        Sentence.of(11, "UNLIKE: one that is none.", WordEdges::wordUnlike);
        Sentence.of(14, "A WORD (anew; MADE) of two (perhaps itself), one behind the other: its size.",
                WordEdges::join);
        Sentence.of(14, "BAD", WordEdges::joinBad);
        Sentence.of(14, "NOTHING: either", WordEdges::joinNothing);
        Sentence.of(14, "FULL.", WordEdges::joinFull);
        Sentence.of(14, "(FULL behind NOTHING.)", WordEdges::joinOrder);
        Sentence.of(15, "A WORD (anew; MADE) of n LETTERS of one (perhaps itself) from place i on: n.",
                WordEdges::part);
        Sentence.of(15, "BAD", WordEdges::partBad);
        Sentence.of(15, "SIZE: n below 0", WordEdges::partSize);
        Sentence.of(15, "NOTHING", WordEdges::partNothing);
        Sentence.of(15, "BEYOND.", WordEdges::partBeyond);
        Sentence.of(16, "A WORD (anew; TURNED) of one (perhaps itself):", WordEdges::turn);
        Sentence.of(16, "how = 0 from its end to its beginning,", WordEdges::turnEndToBeginning);
        Sentence.of(16, "1 each LETTER x is k - 1 less x: its size.", WordEdges::turnLetters);
        Sentence.of(16, "BAD", WordEdges::turnBad);
        Sentence.of(16, "NOTHING.", WordEdges::turnNothing);
        Sentence.of(17, "A WORD (anew; DROPPED) of one (perhaps itself)", WordEdges::drop);
        Sentence.of(17, "to a depth d (0 .. 40): its size.", WordEdges::dropDepth);
        Sentence.of(17, "BAD", WordEdges::dropBad);
        Sentence.of(17, "NOTHING.", WordEdges::dropNothing);
        Sentence.of(18, "A WORD is missing: 1.", WordEdges::erase);
        Sentence.of(18, "BAD", WordEdges::eraseBad);
        Sentence.of(18, "NOTHING.", WordEdges::eraseNothing);
        Sentence.of(19, "Size of a WORD.", WordEdges::size);
        Sentence.of(19, "BAD", WordEdges::sizeBad);
        Sentence.of(19, "NOTHING.", WordEdges::sizeNothing);
        Sentence.of(20, "LETTER i of a WORD.", WordEdges::letter);
        Sentence.of(20, "BAD", WordEdges::letterBad);
        Sentence.of(20, "NOTHING", WordEdges::letterNothing);
        Sentence.of(20, "BEYOND.", WordEdges::letterBeyond);
        Sentence.of(21, "KIND of a WORD.", WordEdges::kind);
        Sentence.of(21, "BAD", WordEdges::kindBad);
        Sentence.of(21, "NOTHING.", WordEdges::kindNothing);
        marks();
    }

    private static void marks() {
        Sentence.of(22, "What a WORD that IS of a KIND tells:", WordEdges::markByKind);
        Sentence.of(22, "a TOLD one how many bytes its TEXT had (blanks, too),", WordEdges::markTold);
        Sentence.of(22, "a MADE one (TURNED, DROPPED, too) of which WORD (join(): the first),", WordEdges::markMade);
        Sentence.of(22, "a TURNED one how,", WordEdges::markTurned);
        Sentence.of(22, "a DROPPED one to which depth.", WordEdges::markDropped);
        Sentence.of(22, "BAD: also KIND 0", WordEdges::markBad);
        Sentence.of(22, "NOTHING", WordEdges::markNothing);
        Sentence.of(22, "UNLIKE.", WordEdges::markUnlike);
    }

    private static void letters() {
        for (int k = 1; k <= 6; k++) {
            Scene.bare().answers("letters(" + k + ")", 3, "count(0)", k, "letters(" + k + ")", k, "letters(3)", k,
                    "count(0)", 3);
            Scene.bare().does("letters(" + k + ")").row(0, k - 1).answers("word(0, 0)", 1);
            Scene.bare().does("letters(" + k + ")").row(0, k).finds("word(0, 0)", UNLIKE);
        }
    }

    private static void lettersBad() {
        Scene.bare().takesJust("letters(%)", 1, 6);
        Scene.full().refuses("letters(7)", BAD);
        Scene.full().refuses("letters(0)", BAD);
        Scene.full().refuses("letters(-1)", BAD);
        Scene.with(6, "f").refuses("letters(0)", BAD);
    }

    private static void lettersState() {
        for (int top = 1; top <= 5; top++) {
            String word = "a" + (char) ('a' + top);
            Scene.with(6, word).refuses("letters(" + top + ")", STATE);
            Scene.with(6, word).answers("letters(" + (top + 1) + ")", 6);
        }
        Scene.full().refuses("letters(2)", STATE);
        Scene.full().refuses("letters(1)", STATE);
        Scene.with(2, A40.substring(1) + "b").refuses("letters(1)", STATE);
        Scene.with(2, "b" + A40.substring(1)).refuses("letters(1)", STATE);
        Scene.with(2).word(7, "b").refuses("letters(1)", STATE);
        Scene.with(2).word(7, "b").does("erase(7)").answers("letters(1)", 2);
        Scene.with(2, "b").word(0, "a").answers("letters(1)", 2);
        Scene.with(2, "ab").does("part(0, 0, 0, 1)").answers("letters(1)", 2);
        Scene.with(6, "", "", A40).answers("letters(1)", 6);
        Scene.bare().row(0, 5).answers("letters(1)", 3);
    }

    private static void word() {
        Scene.bare().does("row(0, 0)").answers("word(0, 0)", 0, "WORD 0", "", "kind(0)", 0);
        Scene.bare().does("row(0, 40)").answers("word(7, 0)", 40, "WORD 7", A40, "kind(7)", 0);
        for (int w = 0; w <= 7; w++) {
            Scene.full().answers("word(" + w + ", 0)", 3, "WORD " + w, "bca", "kind(" + w + ")", 0,
                    "mark(" + w + ", 2)", -3);
        }
        Scene.full().answers("word(0, 3)", 0, "WORD 0", "", "lay(0, 0, 0)", 1, "WORD 0", "");
        Scene.full().answers("word(0, 0)", 3, "lay(0, 0, 0)", 1, "WORD 0", "bca", "tear(0)", 1, "WORD 0", "bca");
    }

    private static void wordBad() {
        Scene.full().takesJust("word(%, 0)", 0, 7);
        Scene.full().row(1).row(4).takesJust("word(0, %)", 0, 5);
        Scene.bare().refuses("word(8, 0)", BAD);
        Scene.bare().refuses("word(0, 6)", BAD);
        Scene.holed().refuses("word(-1, 1)", BAD);
        Scene.full().refuses("word(8, 4)", BAD);
    }

    private static void wordNothing() {
        Scene.bare().finds("word(0, 0)", NOTHING);
        Scene.bare().finds("word(7, 5)", NOTHING);
        Scene.holed().finds("word(0, 1)", NOTHING);
    }

    private static void wordUnlike() {
        Scene.full().finds("word(0, 4)", UNLIKE);
        Scene.full().finds("word(0, 1)", UNLIKE);
        for (int k = 1; k <= 6; k++) {
            Scene.with(k).row(0, 0, k - 1).takes("word(0, 0)");
            Scene.with(k).row(0, 0, k).finds("word(0, 0)", UNLIKE);
            Scene.with(k).row(0, k, 0).finds("word(0, 0)", UNLIKE);
        }
        Scene.bare().row(0, 0, -1).finds("word(0, 0)", UNLIKE);
        Scene.bare().row(0, -1, 0).finds("word(0, 0)", UNLIKE);
        Scene.bare().does("row(0, 40)", "lay(0, 39, 3)").finds("word(0, 0)", UNLIKE);
        Scene.bare().does("row(0, 1)", "lay(0, 0, MIN)").finds("word(0, 0)", UNLIKE);
        Scene.bare().does("row(0, 1)", "lay(0, 0, MAX)").finds("word(0, 0)", UNLIKE);
        Scene.bare().does("row(0, 1)", "lay(0, 0, 256)").finds("word(0, 0)", UNLIKE);
        Scene.bare().row(0, 3).does("row(0, 0)").takes("word(0, 0)");
    }

    private static void join() {
        Scene.full().answers("join(7, 0, 6)", 8, "WORD 7", "abcabccc", "kind(7)", 2, "WORD 0", "abcab");
        Scene.full().answers("join(5, 5, 5)", 0, "WORD 5", "", "kind(5)", 2);
        Scene.full().answers("join(7, 5, 1)", 2, "WORD 7", "ab", "join(7, 1, 5)", 2, "WORD 7", "ab");
        Scene.full().answers("join(1, 1, 6)", 5, "WORD 1", "abccc");
        Scene.full().answers("join(1, 6, 1)", 5, "WORD 1", "cccab");
        Scene.full().answers("join(1, 1, 1)", 4, "WORD 1", "abab", "mark(1, 2)", 1);
        Scene.bare().does("row(0, 20)", "word(0, 0)").answers("join(0, 0, 0)", 40, "WORD 0", A40);
        Scene.full().answers("join(7, 0, 6)", 8, "erase(0)", 1, "WORD 7", "abcabccc", "mark(7, 2)", 0);
    }

    private static void joinBad() {
        Scene.full().takesJust("join(%, 0, 1)", 0, 7);
        Scene.full().takesJust("join(0, %, 1)", 0, 7);
        Scene.full().takesJust("join(0, 1, %)", 0, 7);
        Scene.bare().refuses("join(8, 0, 0)", BAD);
        Scene.bare().refuses("join(0, 8, 0)", BAD);
        Scene.bare().refuses("join(0, 0, 8)", BAD);
        Scene.with(1, A40).refuses("join(8, 0, 0)", BAD);
    }

    private static void joinNothing() {
        Scene.bare().finds("join(0, 0, 0)", NOTHING);
        Scene.holed().finds("join(0, 0, 1)", NOTHING);
        Scene.holed().finds("join(0, 1, 0)", NOTHING);
        Scene.holed().finds("join(0, 1, 3)", NOTHING);
        Scene.holed().answers("join(1, 0, 6)", 8, "WORD 1", "abcabccc");
    }

    private static void joinFull() {
        Scene forty = Scene.with(2, "a".repeat(20), "b".repeat(20), "b".repeat(21), "");
        forty.answers("join(7, 0, 1)", 40, "WORD 7", "a".repeat(20) + "b".repeat(20));
        forty.refuses("join(7, 0, 2)", FULL);
        forty.refuses("join(0, 2, 0)", FULL);
        forty.refuses("join(2, 2, 2)", FULL);
        Scene.with(1, A40, "", "a").answers("join(1, 0, 1)", 40, "WORD 1", A40);
        Scene.with(1, A40, "", "a").answers("join(1, 1, 0)", 40, "WORD 1", A40);
        Scene.with(1, A40, "", "a").refuses("join(2, 0, 2)", FULL);
        Scene.with(1, A40, "", "a").refuses("join(2, 2, 0)", FULL);
        Scene.with(1, A40).refuses("join(0, 0, 0)", FULL);
    }

    private static void joinOrder() {
        Scene.with(1, A40).finds("join(0, 0, 1)", NOTHING);
        Scene.with(1, A40).finds("join(0, 1, 0)", NOTHING);
        Scene.with(1, A40).does("erase(0)").finds("join(0, 0, 0)", NOTHING);
    }

    private static void part() {
        Scene.full().answers("part(7, 0, 1, 3)", 3, "WORD 7", "bca", "kind(7)", 2, "mark(7, 2)", 0, "WORD 0", "abcab");
        Scene.full().answers("part(0, 0, 2, 3)", 3, "WORD 0", "cab", "mark(0, 2)", 0);
        Scene.full().answers("part(7, 0, 0, 5)", 5, "WORD 7", "abcab");
        Scene.full().answers("part(7, 0, 0, 0)", 0, "WORD 7", "", "size(7)", 0);
        Scene.full().answers("part(7, 0, 4, 1)", 1, "WORD 7", "b");
        Scene.full().answers("part(5, 5, 0, 0)", 0, "WORD 5", "", "kind(5)", 2);
        Scene.with(2, A40.substring(1) + "b").answers("part(0, 0, 39, 1)", 1, "WORD 0", "b");
        Scene.with(2, A40.substring(1) + "b").answers("part(1, 0, 0, 40)", 40, "WORD 1", A40.substring(1) + "b");
        Scene.holed().answers("part(1, 0, 1, 1)", 1, "WORD 1", "b");
    }

    private static void partBad() {
        Scene.full().takesJust("part(%, 0, 0, 1)", 0, 7);
        Scene.full().takesJust("part(0, %, 0, 0)", 0, 7);
        Scene.bare().refuses("part(8, 0, 0, 0)", BAD);
        Scene.bare().refuses("part(0, 8, 0, 0)", BAD);
        Scene.full().refuses("part(8, 0, 0, -1)", BAD);
        Scene.full().refuses("part(0, 8, 0, -1)", BAD);
        Scene.full().refuses("part(-1, 0, 9, 9)", BAD);
    }

    private static void partSize() {
        Scene.full().takes("part(7, 0, 0, 0)");
        Scene.full().finds("part(7, 0, 0, -1)", SIZE);
        Scene.full().finds("part(7, 0, 0, MIN)", SIZE);
        Scene.full().finds("part(7, 0, 9, -1)", SIZE);
        Scene.full().finds("part(7, 0, -9, -1)", SIZE);
        Scene.holed().finds("part(0, 1, 0, -1)", SIZE);
    }

    private static void partNothing() {
        Scene.bare().finds("part(0, 0, 0, 0)", NOTHING);
        Scene.holed().finds("part(0, 1, 0, 0)", NOTHING);
        Scene.holed().finds("part(0, 7, 0, 1)", NOTHING);
        Scene.holed().finds("part(0, 1, 9, 9)", NOTHING);
        Scene.holed().finds("part(0, 1, -1, 0)", NOTHING);
    }

    private static void partBeyond() {
        Scene.full().takes("part(7, 0, 5, 0)");
        Scene.full().finds("part(7, 0, 6, 0)", BEYOND);
        Scene.full().finds("part(7, 0, -1, 0)", BEYOND);
        Scene.full().takes("part(7, 0, 2, 3)");
        Scene.full().finds("part(7, 0, 3, 3)", BEYOND);
        Scene.full().finds("part(7, 0, 0, 6)", BEYOND);
        Scene.full().finds("part(7, 0, -1, 2)", BEYOND);
        Scene.full().finds("part(7, 0, 5, 1)", BEYOND);
        Scene.full().finds("part(7, 0, MAX, 1)", BEYOND);
        Scene.full().finds("part(7, 0, 1, MAX)", BEYOND);
        Scene.full().finds("part(7, 0, MAX, MAX)", BEYOND);
        Scene.full().finds("part(7, 0, MIN, MAX)", BEYOND);
        Scene.full().finds("part(7, 0, MIN, 0)", BEYOND);
        Scene.full().finds("part(0, 5, 0, 1)", BEYOND);
        Scene.with(1, A40).finds("part(0, 0, 0, 41)", BEYOND);
        Scene.with(1, A40).finds("part(0, 0, 40, 1)", BEYOND);
    }

    private static void turn() {
        Scene.full().answers("turn(6, 0, 0)", 5, "WORD 6", "bacba", "kind(6)", 3, "mark(6, 2)", 0, "WORD 0", "abcab");
        Scene.full().answers("turn(0, 0, 0)", 5, "WORD 0", "bacba", "mark(0, 2)", 0);
        Scene.full().answers("turn(0, 0, 1)", 5, "WORD 0", "cbacb", "mark(0, 2)", 0);
        Scene.full().answers("turn(5, 5, 0)", 0, "WORD 5", "", "kind(5)", 3);
        Scene.full().answers("turn(5, 5, 1)", 0, "WORD 5", "", "kind(5)", 3);
        Scene.holed().answers("turn(1, 0, 0)", 5, "WORD 1", "bacba");
    }

    private static void turnEndToBeginning() {
        String word = "b".repeat(19) + A40.substring(19);
        Scene.with(2, word).answers("turn(7, 0, 0)", 40, "WORD 7", "a".repeat(21) + "b".repeat(19), "mark(7, 3)", 0);
        Scene.with(3, "c").answers("turn(0, 0, 0)", 1, "WORD 0", "c");
        Scene.with(3, "ac").answers("turn(0, 0, 0)", 2, "WORD 0", "ca");
    }

    private static void turnLetters() {
        Scene.with(1, A40).answers("turn(0, 0, 1)", 40, "WORD 0", A40, "mark(0, 3)", 1);
        Scene.with(6, "abcdef").answers("turn(0, 0, 1)", 6, "WORD 0", "fedcba");
        Scene.with(4, "abcd").answers("turn(0, 0, 1)", 4, "WORD 0", "dcba");
        Scene.with(3, "ab").does("letters(2)").answers("turn(0, 0, 1)", 2, "WORD 0", "ba");
        Scene.with(3, "ab").does("letters(6)").answers("turn(0, 0, 1)", 2, "WORD 0", "fe");
    }

    private static void turnBad() {
        Scene.full().takesJust("turn(%, 0, 0)", 0, 7);
        Scene.full().takesJust("turn(0, %, 0)", 0, 7);
        Scene.full().takesJust("turn(0, 0, %)", 0, 1);
        Scene.bare().refuses("turn(8, 0, 0)", BAD);
        Scene.bare().refuses("turn(0, 8, 0)", BAD);
        Scene.bare().refuses("turn(0, 0, 2)", BAD);
        Scene.bare().refuses("turn(0, 0, -1)", BAD);
    }

    private static void turnNothing() {
        Scene.bare().finds("turn(0, 0, 0)", NOTHING);
        Scene.holed().finds("turn(0, 1, 0)", NOTHING);
        Scene.holed().finds("turn(7, 7, 1)", NOTHING);
    }

    private static void drop() {
        Scene.full().answers("drop(6, 0, 1)", 3, "WORD 6", "cab", "kind(6)", 4, "mark(6, 2)", 0, "WORD 0", "abcab");
        Scene.full().answers("drop(0, 0, 1)", 3, "WORD 0", "cab", "kind(0)", 4, "mark(0, 2)", 0, "mark(0, 4)", 1);
        Scene.full().answers("drop(5, 5, 0)", 0, "WORD 5", "", "drop(5, 5, 40)", 0, "WORD 5", "", "kind(5)", 4);
        Scene.holed().answers("drop(1, 0, 1)", 3, "WORD 1", "cab");
    }

    private static void dropDepth() {
        Scene.with(1, A40).answers("drop(1, 0, 0)", 0, "WORD 1", "", "mark(1, 4)", 0);
        Scene.with(1, A40).answers("drop(1, 0, 1)", 1, "WORD 1", "a");
        Scene.with(1, A40).answers("drop(1, 0, 39)", 39, "mark(1, 4)", 39);
        Scene.with(1, A40).answers("drop(1, 0, 40)", 40, "WORD 1", A40, "mark(1, 4)", 40);
        String word = "ab".repeat(20);
        Scene.with(2, word).answers("drop(1, 0, 40)", 40, "WORD 1", word);
        Scene.with(2, word).answers("drop(1, 0, 1)", 2, "WORD 1", "ab");
        Scene.with(2, word).answers("drop(1, 0, 0)", 0, "WORD 1", "");
        Scene.with(6, "f").answers("drop(1, 0, 0)", 0, "WORD 1", "", "drop(1, 0, 1)", 1, "WORD 1", "f");
    }

    private static void dropBad() {
        Scene.full().takesJust("drop(%, 0, 2)", 0, 7);
        Scene.full().takesJust("drop(0, %, 2)", 0, 7);
        Scene.full().takesJust("drop(0, 0, %)", 0, 40);
        Scene.bare().refuses("drop(8, 0, 0)", BAD);
        Scene.bare().refuses("drop(0, 8, 0)", BAD);
        Scene.bare().refuses("drop(0, 0, 41)", BAD);
        Scene.bare().refuses("drop(0, 0, -1)", BAD);
    }

    private static void dropNothing() {
        Scene.bare().finds("drop(0, 0, 0)", NOTHING);
        Scene.holed().finds("drop(0, 1, 40)", NOTHING);
        Scene.holed().finds("drop(7, 7, 0)", NOTHING);
    }

    private static void erase() {
        Scene.full().answers("erase(0)", 1, "WORD 0", "missing", "WORD 1", "ab", "count(3)", 7);
        Scene.full().answers("erase(5)", 1, "WORD 5", "missing", "erase(7)", 1, "WORD 7", "missing", "count(3)", 6);
        Scene.full().answers("erase(4)", 1, "count(4)", 2, "word(4, 3)", 0, "kind(4)", 0, "WORD 4", "");
    }

    private static void eraseBad() {
        Scene.full().takesJust("erase(%)", 0, 7);
        Scene.bare().refuses("erase(8)", BAD);
    }

    private static void eraseNothing() {
        Scene.bare().finds("erase(0)", NOTHING);
        Scene.bare().finds("erase(7)", NOTHING);
        Scene.holed().finds("erase(1)", NOTHING);
    }

    private static void size() {
        Scene.full().answers("size(0)", 5, "size(5)", 0, "size(6)", 3);
        Scene.with(1, A40).answers("size(0)", 40);
    }

    private static void sizeBad() {
        Scene.full().takesJust("size(%)", 0, 7);
        Scene.bare().refuses("size(8)", BAD);
    }

    private static void sizeNothing() {
        Scene.bare().finds("size(0)", NOTHING);
        Scene.bare().finds("size(7)", NOTHING);
        Scene.holed().finds("size(1)", NOTHING);
    }

    private static void letter() {
        Scene.full().answers("letter(0, 0)", 0, "letter(0, 2)", 2, "letter(0, 4)", 1);
        Scene.with(6, A40.substring(1) + "f").answers("letter(0, 39)", 5, "letter(0, 38)", 0, "letter(0, 0)", 0);
    }

    private static void letterBad() {
        Scene.full().word(5, "b").takesJust("letter(%, 0)", 0, 7);
        Scene.bare().refuses("letter(8, 0)", BAD);
        Scene.holed().refuses("letter(-1, -1)", BAD);
    }

    private static void letterNothing() {
        Scene.bare().finds("letter(0, 0)", NOTHING);
        Scene.holed().finds("letter(7, 0)", NOTHING);
        Scene.holed().finds("letter(1, 40)", NOTHING);
        Scene.holed().finds("letter(1, -1)", NOTHING);
    }

    private static void letterBeyond() {
        Scene.full().finds("letter(0, 5)", BEYOND);
        Scene.full().finds("letter(0, -1)", BEYOND);
        Scene.full().finds("letter(0, MAX)", BEYOND);
        Scene.full().finds("letter(0, MIN)", BEYOND);
        Scene.full().finds("letter(5, 0)", BEYOND);
        Scene.with(1, A40).finds("letter(0, 40)", BEYOND);
        Scene.with(1, A40).does("part(0, 0, 0, 2)").finds("letter(0, 2)", BEYOND);
    }

    private static void kind() {
        Scene.full().answers("kind(0)", 0, "kind(2)", 1, "kind(3)", 2, "kind(4)", 3, "kind(7)", 4);
    }

    private static void kindBad() {
        Scene.full().takesJust("kind(%)", 0, 7);
        Scene.bare().refuses("kind(8)", BAD);
    }

    private static void kindNothing() {
        Scene.bare().finds("kind(0)", NOTHING);
        Scene.bare().finds("kind(7)", NOTHING);
        Scene.holed().finds("kind(1)", NOTHING);
        Scene.holed().finds("kind(7)", NOTHING);
    }

    private static void markByKind() {
        Scene.full().answers("mark(2, 1)", 6, "mark(3, 2)", 1, "mark(4, 3)", 1, "mark(4, 2)", 3, "mark(7, 4)", 2,
                "mark(7, 2)", 0, "finding()", UNLIKE, "findings(3)", 3);
    }

    private static void markTold() {
        Scene.bare().text(0, "").does("tell(0, 0)").answers("mark(0, 1)", 0);
        Scene.bare().text(0, "a" + " ".repeat(59)).does("tell(0, 0)").answers("mark(0, 1)", 60);
        Scene.bare().text(0, "(a9b9)2").does("tell(0, 0)").answers("mark(0, 1)", 7, "text(0, 1)", 1, "mark(0, 1)", 7);
    }

    private static void markMade() {
        Scene.full().answers("join(0, 6, 1)", 5, "mark(0, 2)", 6);
        Scene.full().answers("join(7, 0, 1)", 7, "mark(7, 2)", 0);
        Scene.full().answers("part(0, 7, 0, 1)", 1, "mark(0, 2)", 7);
        Scene.full().answers("turn(0, 6, 1)", 3, "mark(0, 2)", 6, "drop(0, 0, 1)", 1, "mark(0, 2)", 0);
        Scene.full().answers("drop(1, 0, 40)", 5, "mark(1, 2)", 0, "erase(0)", 1, "mark(1, 2)", 0);
    }

    private static void markTurned() {
        Scene.full().answers("turn(0, 1, 0)", 2, "mark(0, 3)", 0, "mark(0, 2)", 1);
        Scene.full().answers("turn(0, 1, 1)", 2, "mark(0, 3)", 1, "mark(0, 2)", 1);
    }

    private static void markDropped() {
        Scene.full().answers("drop(0, 1, 0)", 0, "mark(0, 4)", 0, "mark(0, 2)", 1);
        Scene.full().answers("drop(0, 1, 40)", 2, "mark(0, 4)", 40, "mark(0, 2)", 1);
    }

    private static void markBad() {
        Scene.full().refuses("mark(0, 0)", BAD);
        Scene.full().refuses("mark(3, 0)", BAD);
        Scene.full().refuses("mark(7, 5)", BAD);
        Scene.full().refuses("mark(7, -1)", BAD);
        Scene.full().refuses("mark(7, MIN)", BAD);
        Scene.full().refuses("mark(7, MAX)", BAD);
        Scene.full().takes("mark(2, 1)");
        Scene.full().takes("mark(7, 4)");
        everyMade().takesJust("mark(%, 2)", 0, 7);
        Scene.bare().refuses("mark(8, 1)", BAD);
    }

    private static Scene everyMade() {
        Scene scene = Scene.full();
        for (int w = 0; w <= 7; w++) {
            scene.does("part(" + w + ", 0, 0, 1)");
        }
        return scene;
    }

    private static void markNothing() {
        Scene.bare().finds("mark(0, 1)", NOTHING);
        Scene.holed().finds("mark(7, 4)", NOTHING);
        Scene.holed().finds("mark(1, 2)", NOTHING);
        Scene.holed().refuses("mark(1, 0)", BAD);
        Scene.holed().refuses("mark(1, 5)", BAD);
    }

    private static void markUnlike() {
        int[][] unlike = {{0, 1}, {0, 2}, {0, 3}, {0, 4}, {2, 2}, {2, 3}, {2, 4}, {3, 1}, {3, 3}, {3, 4}, {4, 1},
            {4, 4}, {7, 1}, {7, 3}};
        for (int[] pair : unlike) {
            Scene.full().finds("mark(" + pair[0] + ", " + pair[1] + ")", UNLIKE);
        }
    }
}
