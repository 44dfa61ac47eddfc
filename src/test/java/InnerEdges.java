/** Promises 28 to 33, sentence by sentence. */
final class InnerEdges {
    private static final int BAD = WithinWords.BAD;
    private static final int NOTHING = 1;
    private static final String A40 = "a".repeat(40);
    /** Has more than MAX inner words of 20 letters. */
    private static final String RICH = "abcdef".repeat(6) + "abcd";

    private InnerEdges() {
    }

    static void all() {
        Sentence.of(28, "How many INNER words of n LETTERS (n 0 .. 40;", InnerEdges::inner);
        Sentence.of(28, "NONE: of any length) a WORD has, told by many(): 1.", InnerEdges::innerAny);
        Sentence.of(28, "BAD", InnerEdges::innerBad);
        Sentence.of(28, "NOTHING.", InnerEdges::innerNothing);
        Sentence.of(29, "RANK of v in w, told by many(): 1.", InnerEdges::rank);
        Sentence.of(29, "NONE: v does not STAND IN w.", InnerEdges::rankNone);
        Sentence.of(29, "BAD", InnerEdges::rankBad);
        Sentence.of(29, "NOTHING.", InnerEdges::rankNothing);
        Sentence.of(30, "The INNER word of n LETTERS (0 .. 40) of a RANK", InnerEdges::byRank);
        Sentence.of(30, "comes to a ROW (anew): n.", InnerEdges::byRankToRow);
        Sentence.of(30, "NONE: no such RANK.", InnerEdges::byRankNone);
        Sentence.of(30, "BAD: RANK below 0", InnerEdges::byRankBad);
        Sentence.of(30, "NOTHING.", InnerEdges::byRankNothing);
        Sentence.of(31, "ARCHES;", InnerEdges::arches);
        Sentence.of(31, "how long REST is by asked().", InnerEdges::archesRest);
        Sentence.of(31, "BAD", InnerEdges::archesBad);
        Sentence.of(31, "NOTHING.", InnerEdges::archesNothing);
        Sentence.of(32, "How long the shortest ABSENT words are;", InnerEdges::absentLength);
        Sentence.of(32, "the first 40 LETTERS of the FIRST come to a ROW (anew);", InnerEdges::absentFirst);
        Sentence.of(32, "how many there are told by many().", InnerEdges::absentMany);
        Sentence.of(32, "BAD", InnerEdges::absentBad);
        Sentence.of(32, "NOTHING.", InnerEdges::absentNothing);
        Sentence.of(33, "How many LETTERS behind a WORD it takes at least, so that all words of d (0 .. 40) LETTERS"
                + " STAND IN it.", InnerEdges::added);
        Sentence.of(33, "BAD", InnerEdges::addedBad);
        Sentence.of(33, "NOTHING.", InnerEdges::addedNothing);
    }

    private static void inner() {
        Scene.full().answers("inner(0, 0)", 1, "many()", 1, "inner(0, 1)", 1, "many()", 3, "inner(0, 5)", 1,
                "many()", 1, "inner(0, 6)", 1, "many()", 0, "inner(0, 40)", 1, "many()", 0);
        Scene.full().answers("inner(5, 0)", 1, "many()", 1, "inner(5, 1)", 1, "many()", 0, "inner(5, 40)", 1,
                "many()", 0);
        Scene.with(1, A40).answers("inner(0, 0)", 1, "many()", 1, "inner(0, 39)", 1, "many()", 1, "inner(0, 40)", 1,
                "many()", 1);
        Scene.with(1, A40, "aa", "").answers("inner(0, 0)", 1, "many()", 1, "inner(0, 0)", 1, "many()", 1,
                "inner(1, 3)", 1, "many()", 0, "inner(1, 40)", 1, "many()", 0, "inner(2, 1)", 1, "many()", 0,
                "inner(0, 40)", 1, "many()", 1);
        Scene.with(6, RICH).answers("inner(0, 40)", 1, "many()", 1, "inner(0, 39)", 1, "many()", 40, "inner(0, 1)", 1,
                "many()", 6, "inner(0, 6)", 1, "many()", 46656);
    }

    private static void innerAny() {
        Scene.full().answers("inner(5, -9)", 1, "many()", 1);
        Scene.full().answers("inner(6, -9)", 1, "many()", 4);
        Scene.with(1, A40).answers("inner(0, -9)", 1, "many()", 41);
        Scene.with(6, "abcdef").answers("inner(0, -9)", 1, "many()", 64);
        Scene.with(2, "ab".repeat(20)).answers("inner(0, -9)", 1, "many()", 433494436L);
    }

    private static void innerBad() {
        Scene.full().takesJust("inner(%, 1)", 0, 7);
        Scene.full().takesJust("inner(0, %)", 0, 40);
        for (int n = -12; n < 0; n++) {
            if (n != WithinWords.NONE) {
                Scene.full().refuses("inner(0, " + n + ")", BAD);
            }
        }
        Scene.bare().refuses("inner(8, 0)", BAD);
        Scene.bare().refuses("inner(0, 41)", BAD);
        Scene.bare().refuses("inner(0, -1)", BAD);
        Scene.full().refuses("inner(8, -9)", BAD);
    }

    private static void innerNothing() {
        Scene.bare().finds("inner(0, 0)", NOTHING);
        Scene.bare().finds("inner(7, -9)", NOTHING);
        Scene.holed().finds("inner(1, 40)", NOTHING);
    }

    private static void rank() {
        Scene.full().answers("rank(0, 0)", 1, "many()", 0, "rank(0, 5)", 1, "many()", 0, "rank(5, 5)", 1, "many()", 0);
        Scene.full().answers("rank(0, 1)", 1, "many()", 1);
        Scene.with(3, "abcab", "aa", "ab", "ac", "ba", "bb", "bc", "cb").answers("rank(0, 1)", 1, "many()", 0,
                "rank(0, 2)", 1, "many()", 1, "rank(0, 3)", 1, "many()", 2, "rank(0, 4)", 1, "many()", 3,
                "rank(0, 5)", 1, "many()", 4, "rank(0, 6)", 1, "many()", 5, "rank(0, 7)", 1, "many()", 7);
        Scene.with(1, A40, "a").answers("rank(0, 0)", 1, "many()", 0, "rank(0, 1)", 1, "many()", 0);
        lastRank();
    }

    /** The last inner word of 20 letters has a rank beyond MAX. */
    private static void lastRank() {
        WithinWords x = Play.with(6, RICH);
        Check.due("29: inner(0, 20)", x.inner(0, 20), 1);
        long many = x.many();
        Check.holds("29: more than MAX", many > Integer.MAX_VALUE);
        StringBuilder last = new StringBuilder();
        int from = 0;
        for (int left = 20; left > 0; left--) {
            int best = from;
            for (int i = from; i <= RICH.length() - left; i++) {
                best = RICH.charAt(i) > RICH.charAt(best) ? i : best;
            }
            last.append(RICH.charAt(best));
            from = best + 1;
        }
        Scene.with(6, RICH, last.toString()).answers("rank(0, 1)", 1, "many()", many - 1);
    }

    private static void rankNone() {
        Scene.full().hasNone("rank(0, 6)");
        Scene.full().hasNone("rank(1, 0)");
        Scene.full().hasNone("rank(5, 1)");
        Scene.with(1, A40, A40.substring(1)).hasNone("rank(1, 0)");
    }

    private static void rankBad() {
        Scene.full().takesJust("rank(%, 1)", 0, 7);
        Scene.full().takesJust("rank(0, %)", 0, 7);
        Scene.bare().refuses("rank(8, 0)", BAD);
        Scene.bare().refuses("rank(0, 8)", BAD);
    }

    private static void rankNothing() {
        Scene.bare().finds("rank(0, 0)", NOTHING);
        Scene.holed().finds("rank(0, 1)", NOTHING);
        Scene.holed().finds("rank(1, 0)", NOTHING);
        Scene.holed().finds("rank(1, 7)", NOTHING);
    }

    private static void byRank() {
        Scene.full().answers("byRank(0, 0, 0, 3)", 0, "LETTERS 3", "");
        Scene.full().answers("byRank(5, 0, 0, 3)", 0, "LETTERS 3", "");
        Scene.full().answers("byRank(0, 1, 0, 3)", 1, "LETTERS 3", "a", "byRank(0, 1, 2, 3)", 1, "LETTERS 3", "c");
        Scene.full().answers("byRank(0, 5, 0, 3)", 5, "LETTERS 3", "abcab");
        Scene.full().answers("byRank(0, 3, 0, 3)", 3, "LETTERS 3", "aab", "byRank(0, 3, 9, 3)", 3, "LETTERS 3", "cab");
        Scene.with(1, A40).answers("byRank(0, 40, 0, 5)", 40, "LETTERS 5", A40);
        Scene.with(6, RICH).answers("byRank(0, 20, 2147483647, 5)", 20, "word(1, 5)", 20, "rank(0, 1)", 1,
                "many()", Integer.MAX_VALUE);
    }

    private static void byRankToRow() {
        Scene.holed().answers("byRank(0, 2, 0, 1)", 2, "LETTERS 1", "aa");
        Scene.full().answers("byRank(0, 2, 7, 0)", 2, "LETTERS 0", "cb", "ROW 1", "5,-6", "count(1)", 6);
        Scene.full().answers("byRank(0, 0, 0, 0)", 0, "LETTERS 0", "", "count(1)", 6);
        Scene.full().answers("byRank(0, 2, 7, 0)", 2, "many()", 3, "asked()", -6);
    }

    private static void byRankNone() {
        Scene.full().hasNone("byRank(0, 0, 1, 0)");
        Scene.full().hasNone("byRank(0, 2, 8, 0)");
        Scene.full().hasNone("byRank(0, 3, 10, 0)");
        Scene.full().hasNone("byRank(0, 5, 1, 0)");
        Scene.full().hasNone("byRank(0, 6, 0, 0)");
        Scene.full().hasNone("byRank(0, 40, 0, 0)");
        Scene.full().hasNone("byRank(0, 3, MAX, 0)");
        Scene.full().hasNone("byRank(5, 1, 0, 0)");
        Scene.holed().hasNone("byRank(0, 6, 0, 1)");
        Scene.with(1, A40).hasNone("byRank(0, 40, 1, 5)");
    }

    private static void byRankBad() {
        Scene.full().takesJust("byRank(%, 0, 0, 0)", 0, 7);
        Scene.full().takesJust("byRank(0, %, 0, 0)", 0, 40);
        Scene.full().takesJust("byRank(0, 2, 0, %)", 0, 5);
        Scene.full().takes("byRank(0, 2, 0, 0)");
        Scene.full().refuses("byRank(0, 2, -1, 0)", BAD);
        Scene.full().refuses("byRank(0, 2, MIN, 0)", BAD);
        Scene.full().refuses("byRank(0, -9, 0, 0)", BAD);
        Scene.full().refuses("byRank(0, 6, -1, 0)", BAD);
        Scene.full().refuses("byRank(0, 6, 0, 6)", BAD);
        Scene.bare().refuses("byRank(8, 0, 0, 0)", BAD);
        Scene.bare().refuses("byRank(0, 41, 0, 0)", BAD);
        Scene.bare().refuses("byRank(0, 0, -1, 0)", BAD);
        Scene.bare().refuses("byRank(0, 0, 0, 6)", BAD);
    }

    private static void byRankNothing() {
        Scene.bare().finds("byRank(0, 0, 0, 0)", NOTHING);
        Scene.holed().finds("byRank(1, 0, 0, 0)", NOTHING);
        Scene.holed().finds("byRank(7, 40, MAX, 1)", NOTHING);
        Scene.holed().takes("byRank(0, 1, 0, 1)");
    }

    private static void arches() {
        Scene.full().answers("arches(5)", 0, "arches(0)", 1, "arches(1)", 0);
        Scene.with(1, A40, "a", "").answers("arches(0)", 40, "arches(1)", 1, "arches(2)", 0);
        Scene.with(6, "abcdef", "abcde", RICH).answers("arches(0)", 1, "arches(1)", 0, "arches(2)", 6);
        Scene.with(2, "ab".repeat(20)).answers("arches(0)", 20, "letters(3)", 2, "arches(0)", 0);
        Scene.with(3, "abcacb").answers("arches(0)", 2);
    }

    private static void archesRest() {
        Scene.full().answers("arches(5)", 0, "asked()", 0, "arches(0)", 1, "asked()", 2, "arches(1)", 0, "asked()", 2);
        Scene.with(1, A40).answers("arches(0)", 40, "asked()", 0);
        Scene.with(2, A40).answers("arches(0)", 0, "asked()", 40);
        Scene.with(3, "abcacb", "abcacba").answers("arches(0)", 2, "asked()", 0, "arches(1)", 2, "asked()", 1);
        Scene.full().answers("arches(0)", 1, "many()", 3);
    }

    private static void archesBad() {
        Scene.full().takesJust("arches(%)", 0, 7);
        Scene.bare().refuses("arches(8)", BAD);
    }

    private static void archesNothing() {
        Scene.bare().finds("arches(0)", NOTHING);
        Scene.bare().finds("arches(7)", NOTHING);
        Scene.holed().finds("arches(1)", NOTHING);
    }

    private static void absentLength() {
        Scene.full().answers("absent(5, 0)", 1, "absent(0, 0)", 2, "absent(1, 0)", 1);
        Scene.with(1, A40, A40.substring(1), "", "a").answers("absent(0, 0)", 41, "absent(1, 0)", 40,
                "absent(2, 0)", 1, "absent(3, 0)", 2);
        Scene.with(6, RICH, "abcde").answers("absent(0, 0)", 7, "absent(1, 0)", 1);
    }

    private static void absentFirst() {
        Scene.with(1, A40, A40.substring(1), "").answers("absent(0, 0)", 41, "LETTERS 0", A40, "absent(1, 0)", 40,
                "LETTERS 0", A40, "absent(2, 0)", 1, "LETTERS 0", "a");
        Scene.with(6, "abcde", "bcdef", "").answers("absent(0, 5)", 1, "LETTERS 5", "f", "absent(1, 5)", 1,
                "LETTERS 5", "a", "absent(2, 5)", 1, "LETTERS 5", "a");
        Scene.with(3, "abcabc", "abccba").answers("absent(0, 0)", 3, "LETTERS 0", "aaa", "absent(1, 0)", 3,
                "LETTERS 0", "aaa");
        Scene.with(3, "aabaac").answers("absent(0, 0)", 2, "LETTERS 0", "bb");
        Scene.with(2, "aab", "bba", "abba").answers("absent(0, 0)", 2, "LETTERS 0", "ba", "absent(1, 0)", 2,
                "LETTERS 0", "aa", "absent(2, 0)", 3, "LETTERS 0", "aaa");
        Scene.holed().answers("absent(0, 1)", 2, "LETTERS 1", "cc", "count(1)", 4);
    }

    private static void absentMany() {
        for (int k = 1; k <= 6; k++) {
            Scene.with(k, "").answers("absent(0, 0)", 1, "many()", k);
        }
        Scene.with(6, "abcde").answers("absent(0, 0)", 1, "many()", 1);
        Scene.with(1, A40).answers("absent(0, 0)", 41, "many()", 1);
        Scene.with(2, "ab".repeat(20)).answers("absent(0, 0)", 21, "many()", 22);
        Scene.with(3, "abcabc").answers("absent(0, 0)", 3, "many()", 10);
        Scene.full().answers("absent(0, 0)", 2, "asked()", -6);
    }

    private static void absentBad() {
        Scene.full().takesJust("absent(%, 0)", 0, 7);
        Scene.full().takesJust("absent(0, %)", 0, 5);
        Scene.bare().refuses("absent(8, 0)", BAD);
        Scene.bare().refuses("absent(0, 6)", BAD);
    }

    private static void absentNothing() {
        Scene.bare().finds("absent(0, 0)", NOTHING);
        Scene.holed().finds("absent(1, 0)", NOTHING);
        Scene.holed().finds("absent(7, 1)", NOTHING);
        Scene.holed().takes("absent(0, 1)");
    }

    private static void added() {
        Scene.full().answers("added(0, 0)", 0, "added(0, 1)", 0, "added(0, 2)", 1, "added(0, 40)", 115);
        Scene.full().answers("added(5, 0)", 0, "added(5, 1)", 3, "added(5, 40)", 120);
        Scene.with(6, "", "abcde", "aaaaa").answers("added(0, 40)", 240, "added(1, 1)", 1, "added(2, 1)", 5);
        Scene.with(1, A40, A40.substring(1), "").answers("added(0, 40)", 0, "added(1, 40)", 1, "added(1, 39)", 0,
                "added(2, 40)", 40);
        Scene.with(2, A40).answers("added(0, 1)", 1, "added(0, 2)", 3);
        Scene.full().answers("added(0, 40)", 115, "many()", 3, "asked()", -6);
    }

    private static void addedBad() {
        Scene.full().takesJust("added(%, 1)", 0, 7);
        Scene.full().takesJust("added(0, %)", 0, 40);
        Scene.bare().refuses("added(8, 0)", BAD);
        Scene.bare().refuses("added(0, 41)", BAD);
        Scene.bare().refuses("added(0, -1)", BAD);
    }

    private static void addedNothing() {
        Scene.bare().finds("added(0, 0)", NOTHING);
        Scene.holed().finds("added(1, 40)", NOTHING);
        Scene.holed().finds("added(7, 0)", NOTHING);
    }
}
