/** Promises 23 to 27, sentence by sentence. */
final class StandingEdges {
    private static final int BAD = WithinWords.BAD, STATE = WithinWords.STATE;
    private static final int NOTHING = 1;
    private static final String A40 = "a".repeat(40);

    private StandingEdges() {
    }

    static void all() {
        Sentence.of(23, "In how many WAYS v STANDS IN w, told by many(): 1, or 0 (none).", StandingEdges::ways);
        Sentence.of(23, "BAD", StandingEdges::waysBad);
        Sentence.of(23, "NOTHING: either.", StandingEdges::waysNothing);
        Sentence.of(24, "The first WAY (each place as early as can be;", StandingEdges::firstWay);
        Sentence.of(24, "last: as late)", StandingEdges::lastWay);
        Sentence.of(24, "comes to a ROW (anew): how many places.", StandingEdges::wayToRow);
        Sentence.of(24, "NONE: v does not STAND IN w.", StandingEdges::wayNone);
        Sentence.of(24, "BAD", StandingEdges::wayBad);
        Sentence.of(24, "NOTHING.", StandingEdges::wayNothing);
        Sentence.of(25, "How many places of w some WAY of v takes", StandingEdges::placesSome);
        Sentence.of(25, "(all: every WAY;", StandingEdges::placesAll);
        Sentence.of(25, "places by bits told by many()).", StandingEdges::placesBits);
        Sentence.of(25, "NONE: v does not STAND IN w.", StandingEdges::placesNone);
        Sentence.of(25, "BAD", StandingEdges::placesBad);
        Sentence.of(25, "NOTHING.", StandingEdges::placesNothing);
        Sentence.of(26, "Whether a ROW is a WAY of v in w: 1, 0.", StandingEdges::judge);
        Sentence.of(26, "BAD", StandingEdges::judgeBad);
        Sentence.of(26, "NOTHING: any.", StandingEdges::judgeNothing);
        Sentence.of(27, "The fewest LETTERS of w without which v does not STAND IN it.", StandingEdges::bar);
        Sentence.of(27, "BAD", StandingEdges::barBad);
        Sentence.of(27, "NOTHING", StandingEdges::barNothing);
        Sentence.of(27, "STATE: v is of none.", StandingEdges::barState);
        Sentence.of(27, "(STATE last.)", StandingEdges::barOrder);
    }

    private static void ways() {
        Scene.full().answers("ways(0, 1)", 1, "many()", 3);
        Scene.full().answers("ways(0, 6)", 0, "many()", 0);
        Scene.full().answers("ways(1, 0)", 0, "many()", 0);
        Scene.full().answers("ways(0, 5)", 1, "many()", 1);
        Scene.full().answers("ways(5, 5)", 1, "many()", 1);
        Scene.full().answers("ways(5, 0)", 0, "many()", 0);
        Scene.full().answers("ways(0, 0)", 1, "many()", 1);
        Scene.with(1, A40, "a".repeat(20), A40.substring(1), "a").answers("ways(0, 1)", 1, "many()", 137846528820L,
                "ways(0, 2)", 1, "many()", 40, "ways(0, 3)", 1, "many()", 40, "ways(0, 0)", 1, "many()", 1,
                "ways(2, 0)", 0, "many()", 0);
    }

    private static void waysBad() {
        Scene.full().takesJust("ways(%, 1)", 0, 7);
        Scene.full().takesJust("ways(0, %)", 0, 7);
        Scene.bare().refuses("ways(8, 0)", BAD);
        Scene.bare().refuses("ways(0, 8)", BAD);
    }

    private static void waysNothing() {
        Scene.bare().finds("ways(0, 0)", NOTHING);
        Scene.holed().finds("ways(0, 1)", NOTHING);
        Scene.holed().finds("ways(1, 0)", NOTHING);
        Scene.holed().finds("ways(1, 7)", NOTHING);
    }

    private static void firstWay() {
        Scene.full().answers("way(0, 1, 3, false)", 2, "ROW 3", "0,1");
        Scene.with(3, "abcabcab", "acb", "bb").answers("way(0, 1, 3, false)", 3, "ROW 3", "0,2,4",
                "way(0, 2, 3, false)", 2, "ROW 3", "1,4");
        Scene.with(1, A40, "a").answers("way(0, 1, 3, false)", 1, "ROW 3", "0");
    }

    private static void lastWay() {
        Scene.full().answers("way(0, 1, 3, true)", 2, "ROW 3", "3,4");
        Scene.with(3, "abcabcab", "acb", "bb").answers("way(0, 1, 3, true)", 3, "ROW 3", "3,5,7",
                "way(0, 2, 3, true)", 2, "ROW 3", "4,7");
        Scene.with(1, A40, "a").answers("way(0, 1, 3, true)", 1, "ROW 3", "39");
    }

    private static void wayToRow() {
        Scene.holed().answers("way(0, 6, 0, false)", -9, "way(0, 0, 1, false)", 5, "ROW 1", "0,1,2,3,4");
        Scene.full().answers("way(0, 5, 0, false)", 0, "ROW 0", "");
        Scene.full().answers("way(0, 5, 0, true)", 0, "ROW 0", "");
        Scene.full().answers("way(5, 5, 0, true)", 0, "ROW 0", "");
        Scene.with(1, A40).answers("way(0, 0, 5, false)", 40, "at(5, 0)", 1, "asked()", 0, "at(5, 39)", 1,
                "asked()", 39);
        Scene.with(1, A40).answers("way(0, 0, 5, true)", 40, "at(5, 0)", 1, "asked()", 0, "at(5, 39)", 1,
                "asked()", 39);
        Scene.full().answers("way(0, 1, 3, true)", 2, "many()", 3, "asked()", -6);
    }

    private static void wayNone() {
        Scene.full().hasNone("way(0, 6, 0, false)");
        Scene.full().hasNone("way(0, 6, 0, true)");
        Scene.full().hasNone("way(5, 0, 3, true)");
        Scene.full().hasNone("way(1, 0, 0, false)");
        Scene.holed().hasNone("way(0, 6, 1, false)");
        Scene.with(1, A40, A40.substring(1)).hasNone("way(1, 0, 0, false)");
    }

    private static void wayBad() {
        Scene.full().takesJust("way(%, 1, 0, false)", 0, 7);
        Scene.full().takesJust("way(0, %, 0, true)", 0, 7);
        Scene.full().takesJust("way(0, 1, %, true)", 0, 5);
        Scene.bare().refuses("way(8, 0, 0, true)", BAD);
        Scene.bare().refuses("way(0, 8, 0, true)", BAD);
        Scene.bare().refuses("way(0, 0, 6, true)", BAD);
        Scene.full().refuses("way(0, 6, 6, true)", BAD);
    }

    private static void wayNothing() {
        Scene.bare().finds("way(0, 0, 0, true)", NOTHING);
        Scene.holed().finds("way(0, 1, 0, true)", NOTHING);
        Scene.holed().finds("way(1, 0, 0, false)", NOTHING);
        Scene.holed().finds("way(1, 1, 1, false)", NOTHING);
        Scene.holed().takes("way(0, 0, 1, false)");
    }

    private static void placesSome() {
        Scene.full().answers("places(0, 1, false)", 4, "many()", 0b11011);
        Scene.full().answers("places(0, 0, false)", 5, "many()", 0b11111);
        Scene.full().answers("places(0, 5, false)", 0, "many()", 0);
        Scene.full().answers("places(5, 5, false)", 0, "many()", 0);
        Scene.with(3, "babacab", "ab").answers("places(0, 1, false)", 5, "many()", 0b1101110);
    }

    private static void placesAll() {
        Scene.full().answers("places(0, 1, true)", 0, "many()", 0);
        Scene.full().answers("places(0, 0, true)", 5, "many()", 0b11111);
        Scene.full().answers("places(0, 5, true)", 0, "many()", 0);
        Scene.with(3, "aabcc", "abc").answers("places(0, 1, true)", 1, "many()", 0b100);
    }

    private static void placesBits() {
        Scene.with(1, A40, "a").answers("places(0, 1, false)", 40, "many()", (1L << 40) - 1, "places(0, 0, true)", 40,
                "many()", (1L << 40) - 1, "places(0, 1, true)", 0, "many()", 0);
        Scene.with(2, A40.substring(1) + "b", "b").answers("places(0, 1, true)", 1, "many()", 1L << 39,
                "places(0, 1, false)", 1, "many()", 1L << 39);
        Scene.with(2, "b" + A40.substring(1), "b").answers("places(0, 1, true)", 1, "many()", 1);
    }

    private static void placesNone() {
        Scene.full().hasNone("places(0, 6, false)");
        Scene.full().hasNone("places(0, 6, true)");
        Scene.full().hasNone("places(5, 0, true)");
        Scene.full().hasNone("places(1, 0, false)");
    }

    private static void placesBad() {
        Scene.full().takesJust("places(%, 1, false)", 0, 7);
        Scene.full().takesJust("places(0, %, true)", 0, 7);
        Scene.bare().refuses("places(8, 0, true)", BAD);
        Scene.bare().refuses("places(0, 8, true)", BAD);
    }

    private static void placesNothing() {
        Scene.bare().finds("places(0, 0, true)", NOTHING);
        Scene.holed().finds("places(0, 1, true)", NOTHING);
        Scene.holed().finds("places(1, 0, false)", NOTHING);
        Scene.holed().finds("places(1, 7, false)", NOTHING);
    }

    /** Rows that are or are no WAYS of ab in abcab. */
    private static void judge() {
        int[][] ways = {{0, 1}, {0, 4}, {3, 4}};
        int[][] none = {{}, {0}, {1}, {0, 1, 2}, {0, 1, 4}, {1, 0}, {3, 1}, {0, 0}, {0, 2}, {2, 4}, {-1, 1}, {0, 5},
            {3, 5}, {4, 3}, {Integer.MIN_VALUE, 1}, {0, Integer.MAX_VALUE}, {0, -1}};
        for (int[] row : ways) {
            Scene.full().row(0, row).answers("judge(0, 1, 0)", 1);
        }
        for (int[] row : none) {
            Scene.full().row(0, row).answers("judge(0, 1, 0)", 0);
        }
        Scene.with(2, "aab", "aa").row(0, 0, 0).answers("judge(0, 1, 0)", 0, "lay(0, 0, 1)", 1, "judge(0, 1, 0)", 0,
                "lay(0, 1, 1)", 1, "judge(0, 1, 0)", 0, "lay(0, 0, 0)", 1, "judge(0, 1, 0)", 1);
        Scene.full().answers("judge(0, 5, 3)", 1, "judge(5, 5, 3)", 1, "judge(0, 5, 4)", 0, "judge(5, 1, 3)", 0);
        Scene.with(1, A40).does("way(0, 0, 0, false)").answers("judge(0, 0, 0)", 1, "lay(0, 39, 40)", 1,
                "judge(0, 0, 0)", 0);
        Scene.full().answers("judge(0, 1, 2)", 1, "ROW 2", "0,1", "many()", 3);
    }

    private static void judgeBad() {
        Scene.full().takesJust("judge(%, 1, 0)", 0, 7);
        Scene.full().takesJust("judge(0, %, 0)", 0, 7);
        Scene.full().takesJust("judge(0, 1, %)", 0, 5);
        Scene.bare().refuses("judge(8, 0, 0)", BAD);
        Scene.bare().refuses("judge(0, 8, 0)", BAD);
        Scene.bare().refuses("judge(0, 0, 6)", BAD);
    }

    private static void judgeNothing() {
        Scene.bare().finds("judge(0, 0, 0)", NOTHING);
        Scene.holed().finds("judge(1, 0, 0)", NOTHING);
        Scene.holed().finds("judge(0, 1, 0)", NOTHING);
        Scene.holed().finds("judge(0, 0, 1)", NOTHING);
        Scene.holed().finds("judge(1, 3, 5)", NOTHING);
    }

    private static void bar() {
        Scene.full().answers("bar(0, 1)", 2, "bar(0, 0)", 1, "bar(0, 6)", 0, "bar(1, 0)", 0, "bar(5, 1)", 0);
        Scene.with(2, A40, "a", "aa", "b").answers("bar(0, 1)", 40, "bar(0, 2)", 39, "bar(0, 0)", 1, "bar(0, 3)", 0,
                "bar(1, 1)", 1, "bar(1, 2)", 0);
        Scene.with(2, "aab", "abb", "aabb", "abab", "ab").answers("bar(0, 4)", 1, "bar(1, 4)", 1, "bar(2, 4)", 2,
                "bar(3, 4)", 2, "bar(4, 4)", 1, "bar(2, 2)", 1, "bar(0, 4)", 1);
        Scene.full().answers("bar(0, 1)", 2, "many()", 3, "WORD 0", "abcab");
    }

    private static void barBad() {
        Scene.full().takesJust("bar(%, 1)", 0, 7);
        Scene.full().word(5, "a").takesJust("bar(0, %)", 0, 7);
        Scene.bare().refuses("bar(8, 0)", BAD);
        Scene.bare().refuses("bar(0, 8)", BAD);
        Scene.full().refuses("bar(8, 5)", BAD);
    }

    private static void barNothing() {
        Scene.bare().finds("bar(0, 0)", NOTHING);
        Scene.holed().finds("bar(0, 1)", NOTHING);
        Scene.holed().finds("bar(1, 0)", NOTHING);
        Scene.holed().finds("bar(1, 7)", NOTHING);
    }

    private static void barState() {
        Scene.full().refuses("bar(0, 5)", STATE);
        Scene.full().refuses("bar(5, 5)", STATE);
        Scene.full().answers("bar(5, 0)", 0, "bar(0, 1)", 2);
    }

    private static void barOrder() {
        Scene.holed().word(2, "").finds("bar(1, 2)", NOTHING);
        Scene.full().refuses("bar(-1, 5)", BAD);
    }
}
