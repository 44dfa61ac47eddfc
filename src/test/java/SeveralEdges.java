/** Promises 36 and 37, sentence by sentence. */
final class SeveralEdges {
    private static final int BAD = WithinWords.BAD, SPENT = WithinWords.SPENT;
    private static final int NOTHING = 1;
    private static final String A40 = "a".repeat(40), B40 = "b".repeat(40);

    private SeveralEdges() {
    }

    static void all() {
        Sentence.of(36, "COMMON of WORDS (bits): how long;", SeveralEdges::common);
        Sentence.of(36, "it comes to a ROW (anew).", SeveralEdges::commonToRow);
        Sentence.of(36, "BAD: bits, none, more than 4", () -> bad("common"));
        Sentence.of(36, "NOTHING: one of them", () -> nothing("common"));
        Sentence.of(36, "SPENT.", () -> spent("common"));
        Sentence.of(36, "(SPENT behind NOTHING.)", () -> spentBehindNothing("common"));
        Sentence.of(37, "COVER of WORDS: how long;", SeveralEdges::cover);
        Sentence.of(37, "its first 40 LETTERS come to a ROW (anew).", SeveralEdges::coverToRow);
        Sentence.of(37, "Refused as common().", SeveralEdges::coverRefused);
    }

    /** Words 0, 1, .. of these sizes, all their letters alike, so that the run stays short; no row. */
    static Scene ofSizes(int... sizes) {
        Scene scene = Scene.bare();
        for (int w = 0; w < sizes.length; w++) {
            scene.does("row(5, " + sizes[w] + ")", "word(" + w + ", 5)");
        }
        return scene.does("tear(5)");
    }

    private static void common() {
        Scene.full().answers("common(1, 0)", 5, "common(32, 0)", 0, "common(33, 0)", 0, "common(3, 0)", 2);
        Scene.full().answers("common(128, 0)", 5, "common(129, 0)", 5, "common(65, 0)", 1);
        Scene.with(2, A40, B40, "ab", "b").answers("common(1, 0)", 40, "common(3, 0)", 0, "common(5, 0)", 1,
                "common(14, 0)", 1, "common(15, 0)", 0);
        Scene.with(3, "abc", "acb", "bac", "cab").answers("common(15, 0)", 1, "LETTERS 0", "a", "common(7, 0)", 2,
                "LETTERS 0", "ac");
        Scene.with(6, "f", "ef", "def", "cdef").answers("common(15, 0)", 1, "LETTERS 0", "f", "common(14, 0)", 2,
                "LETTERS 0", "ef");
    }

    private static void commonToRow() {
        Scene.full().answers("common(33, 0)", 0, "ROW 0", "", "count(1)", 6);
        Scene.full().answers("common(1, 0)", 5, "many()", 3, "asked()", -6, "LETTERS 0", "abcab");
        Scene.holed().answers("common(1, 1)", 5, "LETTERS 1", "abcab", "count(1)", 4);
        Scene.with(1, A40).answers("common(1, 5)", 40, "LETTERS 5", A40);
        Scene.with(1, A40, A40).answers("common(3, 5)", 40, "LETTERS 5", A40);
    }

    private static void bad(String call) {
        Scene.full().takesJust(call + "(1, %)", 0, 5);
        int[] taken = {1, 128, 3, 15, 240, 0b10101010};
        for (int set : taken) {
            Scene.full().takes(call + "(" + set + ", 0)");
        }
        String[] refused = {"0", "-1", "-128", "256", "257", "512", "MIN", "MAX", "31", "248", "255", "-256"};
        for (String set : refused) {
            Scene.full().refuses(call + "(" + set + ", 0)", BAD);
            Scene.bare().refuses(call + "(" + set + ", 0)", BAD);
        }
        Scene.bare().refuses(call + "(1, 6)", BAD);
        Scene.bare().refuses(call + "(1, -1)", BAD);
        ofSizes(40, 40, 40).refuses(call + "(7, 6)", BAD);
        ofSizes(40, 40, 40, 40, 40).refuses(call + "(31, 0)", BAD);
        ofSizes(40, 40, 40).refuses(call + "(263, 0)", BAD);
    }

    private static void nothing(String call) {
        Scene.bare().finds(call + "(1, 0)", NOTHING);
        Scene.bare().finds(call + "(128, 5)", NOTHING);
        Scene.bare().finds(call + "(15, 0)", NOTHING);
        Scene.holed().finds(call + "(3, 0)", NOTHING);
        Scene.holed().finds(call + "(10, 1)", NOTHING);
        Scene.holed().finds(call + "(129, 0)", NOTHING);
        Scene.holed().takes(call + "(85, 1)");
    }

    /** 20000 is taken; 20007 is the first product above it that sizes of 0 to 40 can make. */
    private static void spent(String call) {
        Check.due("36: the first product above 20000", firstAbove(), 20007);
        ofSizes(24, 19, 39).takes(call + "(7, 0)");
        ofSizes(9, 9, 9, 19).takes(call + "(15, 0)");
        ofSizes(24, 19, 39, 0).takes(call + "(15, 0)");
        ofSizes(26, 38, 18).refuses(call + "(7, 0)", SPENT);
        ofSizes(26, 38, 18, 0).refuses(call + "(15, 0)", SPENT);
        ofSizes(24, 19, 39, 1).refuses(call + "(15, 0)", SPENT);
        ofSizes(40, 40).takes(call + "(3, 0)");
        ofSizes(40, 40, 10).takes(call + "(7, 0)");
        ofSizes(40, 40, 11).refuses(call + "(7, 0)", SPENT);
        ofSizes(40, 40, 40, 40).refuses(call + "(15, 0)", SPENT);
        ofSizes(40, 40, 40, 40).takes(call + "(12, 0)");
    }

    private static int firstAbove() {
        int first = Integer.MAX_VALUE;
        for (int a = 1; a <= 41; a++) {
            for (int b = a; b <= 41; b++) {
                for (int c = b; c <= 41; c++) {
                    for (int d = c; d <= 41; d++) {
                        int product = a * b * c * d;
                        first = product > 20000 ? Math.min(first, product) : first;
                    }
                }
            }
        }
        return first;
    }

    private static void spentBehindNothing(String call) {
        ofSizes(40, 40, 40).finds(call + "(15, 0)", NOTHING);
        ofSizes(40, 40, 40).does("erase(0)").word(3, "a").finds(call + "(15, 0)", NOTHING);
        ofSizes(40, 40, 40, 40).does("erase(0)").finds(call + "(15, 0)", NOTHING);
        ofSizes(40, 40, 40, 40).does("erase(3)").finds(call + "(15, 0)", NOTHING);
    }

    private static void cover() {
        Scene.full().answers("cover(1, 0)", 5, "cover(32, 0)", 0, "cover(33, 0)", 5, "cover(3, 0)", 5,
                "cover(65, 0)", 7);
        Scene.with(3, A40, B40, "c".repeat(10), "").answers("cover(1, 0)", 40, "cover(3, 0)", 80, "cover(7, 0)", 90,
                "cover(15, 0)", 90, "cover(8, 0)", 0);
        Scene.with(6, "f", "ef", "def", "cdef").answers("cover(15, 0)", 4, "LETTERS 0", "cdef");
        Scene.with(2, "ba", "a", "bab").answers("cover(3, 0)", 2, "LETTERS 0", "ba", "cover(6, 0)", 3,
                "LETTERS 0", "bab");
        Scene.with(3, "ab", "ba", "c").answers("cover(3, 0)", 3, "LETTERS 0", "aba", "cover(7, 0)", 4,
                "LETTERS 0", "abac");
    }

    private static void coverToRow() {
        Scene.full().answers("cover(32, 0)", 0, "ROW 0", "", "count(1)", 6);
        Scene.full().answers("cover(1, 0)", 5, "many()", 3, "asked()", -6, "LETTERS 0", "abcab");
        Scene.holed().answers("cover(1, 1)", 5, "LETTERS 1", "abcab", "count(1)", 4);
        Scene.with(2, A40).answers("cover(1, 5)", 40, "LETTERS 5", A40);
        Scene.with(2, A40.substring(1), "b").answers("cover(3, 5)", 40, "LETTERS 5", A40.substring(1) + "b");
        Scene.with(2, A40, "b").answers("cover(3, 5)", 41, "LETTERS 5", A40);
        Scene.with(2, B40, "a").answers("cover(3, 5)", 41, "LETTERS 5", "a" + B40.substring(1));
        Scene.with(3, A40, B40, "c".repeat(10)).answers("cover(7, 5)", 90, "LETTERS 5", A40);
    }

    private static void coverRefused() {
        bad("cover");
        nothing("cover");
        spent("cover");
        spentBehindNothing("cover");
    }
}
