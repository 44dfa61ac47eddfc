import java.math.BigInteger;

/** Promises 39 to 41, sentence by sentence. */
final class ChanceEdges {
    private static final int BAD = WithinWords.BAD, SPENT = WithinWords.SPENT;
    private static final int NOTHING = 1, NOUGHT = 4;
    private static final String A40 = "a".repeat(40);

    private ChanceEdges() {
    }

    static void all() {
        Sentence.of(39, "TWINS by a length d (1 .. 3): how many (itself, too);", ChanceEdges::twins);
        Sentence.of(39, "the FIRST comes to a ROW (anew).", ChanceEdges::twinsFirst);
        Sentence.of(39, "BAD", ChanceEdges::twinsBad);
        Sentence.of(39, "NOTHING", ChanceEdges::twinsNothing);
        Sentence.of(39, "SPENT.", ChanceEdges::twinsSpent);
        Sentence.of(39, "(SPENT last.)", ChanceEdges::twinsOrder);
        Sentence.of(40, "Odds that as many places of w as v has LETTERS, all choices alike likely, are a WAY of v,"
                + " told by upper(), lower(): 1.", ChanceEdges::odds);
        Sentence.of(40, "BAD", ChanceEdges::oddsBad);
        Sentence.of(40, "NOTHING", ChanceEdges::oddsNothing);
        Sentence.of(40, "NOUGHT: v is longer.", ChanceEdges::oddsNought);
        Sentence.of(40, "(NOUGHT last.)", ChanceEdges::oddsOrder);
        Sentence.of(41, "Odds that v STANDS IN a word of m (0 .. 20) LETTERS, all such words alike likely,"
                + " told by upper(), lower(): 1.", ChanceEdges::byChance);
        Sentence.of(41, "BAD", ChanceEdges::byChanceBad);
        Sentence.of(41, "NOTHING.", ChanceEdges::byChanceNothing);
    }

    private static void twins() {
        Scene.with(2, "abba", "baab", "ab").answers("twins(0, 1, 0)", 6, "twins(0, 2, 0)", 2, "twins(0, 3, 0)", 1,
                "twins(1, 2, 0)", 2, "twins(1, 3, 0)", 1, "twins(2, 1, 0)", 2, "twins(2, 2, 0)", 1);
        Scene.full().answers("twins(5, 1, 0)", 1, "twins(5, 2, 0)", 1, "twins(5, 3, 0)", 1);
        Scene.with(6, "f", "ff", "fff").answers("twins(0, 1, 0)", 1, "twins(0, 2, 0)", 6, "twins(0, 3, 0)", 6,
                "twins(1, 2, 0)", 1, "twins(1, 3, 0)", 36, "twins(2, 3, 0)", 1);
        Scene.with(1, A40).answers("twins(0, 1, 0)", 1, "twins(0, 2, 0)", 1, "twins(0, 3, 0)", 1);
    }

    private static void twinsFirst() {
        Scene.with(2, "baab", "ba").answers("twins(0, 1, 5)", 6, "LETTERS 5", "aabb", "twins(0, 2, 5)", 2,
                "LETTERS 5", "abba", "twins(0, 3, 5)", 1, "LETTERS 5", "baab", "twins(1, 3, 5)", 4, "LETTERS 5", "aa");
        Scene.full().answers("twins(5, 1, 0)", 1, "ROW 0", "", "count(1)", 6, "many()", 3, "asked()", -6);
        Scene.with(1, A40).answers("twins(0, 3, 0)", 1, "LETTERS 0", A40);
        Scene.holed().answers("twins(6, 1, 1)", 1, "LETTERS 1", "ccc", "count(1)", 4);
    }

    private static void twinsBad() {
        Scene.full().takesJust("twins(%, 1, 0)", 0, 7);
        Scene.full().takesJust("twins(0, %, 0)", 1, 3);
        Scene.full().takesJust("twins(0, 1, %)", 0, 5);
        Scene.bare().refuses("twins(8, 1, 0)", BAD);
        Scene.bare().refuses("twins(0, 0, 0)", BAD);
        Scene.bare().refuses("twins(0, 4, 0)", BAD);
        Scene.bare().refuses("twins(0, 1, 6)", BAD);
    }

    private static void twinsNothing() {
        Scene.bare().finds("twins(0, 1, 0)", NOTHING);
        Scene.holed().finds("twins(1, 3, 0)", NOTHING);
        Scene.holed().finds("twins(7, 1, 1)", NOTHING);
        Scene.holed().takes("twins(0, 1, 1)");
    }

    /** Which powers of 1 .. 6 are above 10000, among them all that wrap around. */
    private static void twinsSpent() {
        for (int k = 1; k <= 6; k++) {
            for (int n = 0; n <= 40; n++) {
                Scene scene = SeveralEdges.ofSizes(n).does("letters(" + k + ")");
                if (BigInteger.valueOf(k).pow(n).compareTo(BigInteger.valueOf(10000)) > 0) {
                    scene.refuses("twins(0, 3, 0)", SPENT);
                } else {
                    scene.answers("twins(0, 3, 0)", n < 3 ? (long) Math.pow(k, n) : 1);
                }
            }
        }
    }

    private static void twinsOrder() {
        SeveralEdges.ofSizes(40).refuses("twins(0, 0, 0)", BAD);
        SeveralEdges.ofSizes(40).refuses("twins(0, 4, 0)", BAD);
        SeveralEdges.ofSizes(40).refuses("twins(0, 1, 6)", BAD);
        SeveralEdges.ofSizes(40).does("erase(0)").finds("twins(0, 1, 0)", NOTHING);
    }

    private static void fraction(Scene scene, String call, long upper, long lower) {
        scene.answers(call, 1, "upper()", upper, "lower()", lower);
    }

    private static void odds() {
        fraction(Scene.full(), "odds(0, 1)", 3, 10);
        fraction(Scene.full(), "odds(0, 5)", 1, 1);
        fraction(Scene.full(), "odds(5, 5)", 1, 1);
        fraction(Scene.full(), "odds(0, 0)", 1, 1);
        fraction(Scene.full(), "odds(0, 6)", 0, 1);
        fraction(Scene.with(2, "ab", "ba"), "odds(0, 1)", 0, 1);
        fraction(Scene.with(1, A40, "a".repeat(20)), "odds(0, 1)", 1, 1);
        fraction(Scene.with(2, "a".repeat(20) + "b".repeat(20), "a".repeat(20)), "odds(0, 1)", 1, 137846528820L);
        fraction(Scene.with(2, A40.substring(1) + "b", "b"), "odds(0, 1)", 1, 40);
        Scene.full().answers("odds(0, 5)", 1, "many()", 3);
    }

    private static void oddsBad() {
        Scene.full().takesJust("odds(%, 5)", 0, 7);
        Scene.full().does("drop(7, 0, 1)", "part(3, 0, 0, 1)", "part(4, 0, 0, 1)").takesJust("odds(0, %)", 0, 7);
        Scene.bare().refuses("odds(8, 0)", BAD);
        Scene.bare().refuses("odds(0, 8)", BAD);
    }

    private static void oddsNothing() {
        Scene.bare().finds("odds(0, 0)", NOTHING);
        Scene.holed().finds("odds(0, 1)", NOTHING);
        Scene.holed().finds("odds(1, 0)", NOTHING);
        Scene.holed().finds("odds(1, 7)", NOTHING);
    }

    private static void oddsNought() {
        Scene.full().finds("odds(1, 0)", NOUGHT);
        Scene.full().finds("odds(5, 1)", NOUGHT);
        Scene.full().finds("odds(5, 6)", NOUGHT);
        Scene.with(1, A40, A40.substring(1)).finds("odds(1, 0)", NOUGHT);
        fraction(Scene.with(1, A40, A40.substring(1)), "odds(0, 1)", 1, 1);
        fraction(Scene.with(1, A40, A40), "odds(0, 1)", 1, 1);
    }

    private static void oddsOrder() {
        Scene.with(1, "").finds("odds(0, 1)", NOTHING);
        Scene.with(1, A40).finds("odds(1, 0)", NOTHING);
        Scene.full().refuses("odds(8, 0)", BAD);
        Scene.full().refuses("odds(5, 8)", BAD);
    }

    private static void byChance() {
        fraction(Scene.full(), "byChance(5, 0)", 1, 1);
        fraction(Scene.full(), "byChance(5, 20)", 1, 1);
        fraction(Scene.full(), "byChance(1, 0)", 0, 1);
        fraction(Scene.full(), "byChance(1, 1)", 0, 1);
        fraction(Scene.full(), "byChance(1, 2)", 1, 9);
        fraction(Scene.full(), "byChance(6, 3)", 1, 27);
        fraction(Scene.full(), "byChance(1, 3)", 7, 27);
        Scene six = Scene.with(6, "f".repeat(20), "a".repeat(21), "a");
        fraction(six, "byChance(0, 20)", 1, 3656158440062976L);
        fraction(six, "byChance(0, 19)", 0, 1);
        fraction(six, "byChance(1, 20)", 0, 1);
        fraction(six, "byChance(2, 20)", 3656158440062976L - 95367431640625L, 3656158440062976L);
        fraction(Scene.with(1, A40, "a".repeat(20)), "byChance(0, 20)", 0, 1);
        fraction(Scene.with(1, A40, "a".repeat(20)), "byChance(1, 20)", 1, 1);
        fraction(Scene.with(2, "ab").does("letters(6)"), "byChance(0, 2)", 1, 36);
        Scene.full().answers("byChance(1, 2)", 1, "many()", 3);
    }

    private static void byChanceBad() {
        Scene.full().takesJust("byChance(%, 3)", 0, 7);
        Scene.full().takesJust("byChance(0, %)", 0, 20);
        Scene.bare().refuses("byChance(8, 0)", BAD);
        Scene.bare().refuses("byChance(0, 21)", BAD);
        Scene.bare().refuses("byChance(0, -1)", BAD);
    }

    private static void byChanceNothing() {
        Scene.bare().finds("byChance(0, 0)", NOTHING);
        Scene.holed().finds("byChance(1, 20)", NOTHING);
        Scene.holed().finds("byChance(7, 0)", NOTHING);
    }
}
