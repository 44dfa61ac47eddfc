/** Promises 34, 35 and 38, sentence by sentence. */
final class PairEdges {
    private static final int BAD = WithinWords.BAD;
    private static final int NOTHING = 1;
    private static final String A40 = "a".repeat(40);

    private PairEdges() {
    }

    static void all() {
        Sentence.of(34, "Whether two are ALIKE to a depth (0 .. 40): 1, 0.", PairEdges::alike);
        Sentence.of(34, "BAD", PairEdges::alikeBad);
        Sentence.of(34, "NOTHING: either.", PairEdges::alikeNothing);
        Sentence.of(35, "How long PARTING is; it comes to a ROW (anew).", PairEdges::parting);
        Sentence.of(35, "NONE: both are the same.", PairEdges::partingNone);
        Sentence.of(35, "BAD", PairEdges::partingBad);
        Sentence.of(35, "NOTHING.", PairEdges::partingNothing);
        Sentence.of(38, "How many unlike words STAND IN both, told by many(): 1.", PairEdges::both);
        Sentence.of(38, "BAD", PairEdges::bothBad);
        Sentence.of(38, "NOTHING.", PairEdges::bothNothing);
    }

    private static void alike() {
        Scene.full().answers("alike(0, 6, 0)", 1, "alike(0, 6, 1)", 0, "alike(0, 5, 0)", 1, "alike(5, 0, 1)", 0);
        Scene.full().answers("alike(0, 0, 40)", 1, "alike(5, 5, 40)", 1, "alike(5, 5, 0)", 1);
        Scene.with(1, A40, A40.substring(1), A40).answers("alike(0, 1, 39)", 1, "alike(0, 1, 40)", 0,
                "alike(1, 0, 39)", 1, "alike(1, 0, 40)", 0, "alike(0, 2, 40)", 1);
        Scene.with(2, "abab", "abba").answers("alike(0, 1, 2)", 1, "alike(0, 1, 3)", 0, "alike(0, 1, 4)", 0,
                "alike(0, 1, 40)", 0);
        Scene.with(6, "abcdef", "abcde").answers("alike(0, 1, 0)", 1, "alike(0, 1, 1)", 0);
        Scene.full().answers("alike(0, 6, 1)", 0, "many()", 3);
    }

    private static void alikeBad() {
        Scene.full().takesJust("alike(%, 1, 2)", 0, 7);
        Scene.full().takesJust("alike(0, %, 2)", 0, 7);
        Scene.full().takesJust("alike(0, 1, %)", 0, 40);
        Scene.bare().refuses("alike(8, 0, 0)", BAD);
        Scene.bare().refuses("alike(0, 8, 0)", BAD);
        Scene.bare().refuses("alike(0, 0, 41)", BAD);
        Scene.bare().refuses("alike(0, 0, -1)", BAD);
    }

    private static void alikeNothing() {
        Scene.bare().finds("alike(0, 0, 0)", NOTHING);
        Scene.holed().finds("alike(0, 1, 0)", NOTHING);
        Scene.holed().finds("alike(1, 0, 40)", NOTHING);
        Scene.holed().finds("alike(1, 7, 1)", NOTHING);
    }

    private static void parting() {
        Scene.full().answers("parting(0, 5, 0)", 1, "LETTERS 0", "a", "parting(5, 6, 0)", 1, "LETTERS 0", "c");
        Scene.full().answers("parting(0, 6, 3)", 1, "LETTERS 3", "a", "many()", 3);
        Scene.with(2, A40, A40.substring(1), A40.substring(1) + "b").answers("parting(0, 1, 5)", 40, "LETTERS 5", A40,
                "parting(1, 0, 5)", 40, "LETTERS 5", A40, "parting(0, 2, 5)", 1, "LETTERS 5", "b");
        Scene.with(6, "abcdef", "abcde").answers("parting(0, 1, 0)", 1, "LETTERS 0", "f", "parting(1, 0, 0)", 1,
                "LETTERS 0", "f");
        Scene.holed().answers("parting(0, 6, 1)", 1, "LETTERS 1", "a", "count(1)", 4);
    }

    private static void partingNone() {
        Scene.full().hasNone("parting(0, 0, 0)");
        Scene.full().hasNone("parting(5, 5, 0)");
        Scene.full().does("part(6, 0, 0, 5)").hasNone("parting(0, 6, 0)");
        Scene.full().does("part(6, 0, 0, 0)").hasNone("parting(5, 6, 0)");
        Scene.holed().hasNone("parting(0, 0, 1)");
        Scene.with(1, A40, A40).hasNone("parting(0, 1, 0)");
        Scene.full().does("part(6, 0, 0, 4)").answers("parting(0, 6, 0)", 2, "LETTERS 0", "bb");
    }

    private static void partingBad() {
        Scene.full().takesJust("parting(%, 1, 0)", 0, 7);
        Scene.full().takesJust("parting(0, %, 0)", 0, 7);
        Scene.full().takesJust("parting(0, 1, %)", 0, 5);
        Scene.bare().refuses("parting(8, 0, 0)", BAD);
        Scene.bare().refuses("parting(0, 8, 0)", BAD);
        Scene.bare().refuses("parting(0, 0, 6)", BAD);
        Scene.full().refuses("parting(0, 0, 6)", BAD);
    }

    private static void partingNothing() {
        Scene.bare().finds("parting(0, 0, 0)", NOTHING);
        Scene.holed().finds("parting(0, 1, 0)", NOTHING);
        Scene.holed().finds("parting(1, 0, 0)", NOTHING);
        Scene.holed().finds("parting(1, 1, 1)", NOTHING);
        Scene.holed().takes("parting(0, 2, 1)");
    }

    private static void both() {
        Scene.full().answers("both(5, 5)", 1, "many()", 1, "both(0, 5)", 1, "many()", 1, "both(5, 0)", 1, "many()", 1);
        Scene.full().answers("both(0, 6)", 1, "many()", 2, "both(1, 1)", 1, "many()", 4);
        Scene.with(2, A40, A40.substring(1), "b").answers("both(0, 0)", 1, "many()", 41, "both(0, 1)", 1, "many()", 40,
                "both(1, 0)", 1, "many()", 40, "both(0, 2)", 1, "many()", 1);
        Scene.with(2, "abab", "b", "ab").answers("inner(0, -9)", 1, "many()", 12, "both(1, 0)", 1, "many()", 2,
                "inner(0, -9)", 1, "many()", 12, "both(0, 1)", 1, "many()", 2, "parting(0, 1, 0)", 1, "both(2, 1)", 1,
                "many()", 2);
        String rich = "abc".repeat(13) + "a";
        WithinWords x = Play.with(3, rich);
        Check.due("28: inner(0, -9)", x.inner(0, WithinWords.NONE), 1);
        Check.holds("38: more than MAX", x.many() > Integer.MAX_VALUE);
        Scene.with(3, rich).answers("both(0, 0)", 1, "many()", x.many());
    }

    private static void bothBad() {
        Scene.full().takesJust("both(%, 1)", 0, 7);
        Scene.full().takesJust("both(0, %)", 0, 7);
        Scene.bare().refuses("both(8, 0)", BAD);
        Scene.bare().refuses("both(0, 8)", BAD);
    }

    private static void bothNothing() {
        Scene.bare().finds("both(0, 0)", NOTHING);
        Scene.holed().finds("both(0, 1)", NOTHING);
        Scene.holed().finds("both(1, 0)", NOTHING);
        Scene.holed().finds("both(1, 7)", NOTHING);
    }
}
