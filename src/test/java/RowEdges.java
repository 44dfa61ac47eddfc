/** Promises 1 to 7, sentence by sentence. */
final class RowEdges {
    private static final int BAD = WithinWords.BAD;
    private static final int NOTHING = 1, BEYOND = 2, NOUGHT = 4, SIZE = 5;
    private static final String NOUGHTS = "0" + ",0".repeat(39);

    private RowEdges() {
    }

    static void all() {
        Sentence.of(1, "No ROWS, TEXTS, WORDS", RowEdges::newHasNone);
        Sentence.of(1, "three LETTERS.", RowEdges::newHasThreeLetters);
        Sentence.of(2, "A ROW is there with n ints 0: n.", RowEdges::rowOfNoughts);
        Sentence.of(2, "BAD: also n above 40", RowEdges::rowBad);
        Sentence.of(2, "SIZE: below 0.", RowEdges::rowSize);
        Sentence.of(3, "Place i of a ROW is v: what it was, told by asked(): 1.", RowEdges::lay);
        Sentence.of(3, "BAD", RowEdges::layBad);
        Sentence.of(3, "NOTHING", RowEdges::layNothing);
        Sentence.of(3, "BEYOND.", RowEdges::layBeyond);
        Sentence.of(4, "Place i of a ROW, told by asked(): 1.", RowEdges::at);
        Sentence.of(4, "BAD", RowEdges::atBad);
        Sentence.of(4, "NOTHING", RowEdges::atNothing);
        Sentence.of(4, "BEYOND.", RowEdges::atBeyond);
        Sentence.of(5, "A ROW is missing: 1.", RowEdges::tear);
        Sentence.of(5, "BAD", RowEdges::tearBad);
        Sentence.of(5, "NOTHING.", RowEdges::tearNothing);
        Sentence.of(6, "n places of a ROW, from one on, come to those of another one", RowEdges::copy);
        Sentence.of(6, "(perhaps itself) from one on, as if taken ahead: 1.", RowEdges::copyOfItself);
        Sentence.of(6, "BAD", RowEdges::copyBad);
        Sentence.of(6, "SIZE: n below 0", RowEdges::copySize);
        Sentence.of(6, "NOTHING: either", RowEdges::copyNothing);
        Sentence.of(6, "BEYOND: not so many there.", RowEdges::copyBeyond);
        Sentence.of(7, "The mean of a ROW's ints,", RowEdges::mean);
        Sentence.of(7, "cut, told by asked(): 1.", RowEdges::meanIsCut);
        Sentence.of(7, "BAD", RowEdges::meanBad);
        Sentence.of(7, "NOTHING", RowEdges::meanNothing);
        Sentence.of(7, "NOUGHT.", RowEdges::meanNought);
    }

    private static Scene fullRows() {
        int[] values = new int[40];
        for (int i = 0; i < 40; i++) {
            values[i] = 100 + i;
        }
        return Scene.bare().row(0, values).does("row(5, 40)");
    }

    private static String numbers(int from, int n) {
        StringBuilder told = new StringBuilder();
        for (int i = 0; i < n; i++) {
            told.append(i == 0 ? "" : ",").append(from + i);
        }
        return told.toString();
    }

    private static void newHasNone() {
        Scene.bare().answers("count(1)", 0, "count(2)", 0, "count(3)", 0, "count(4)", 0, "count(5)", 0);
        for (int r = 0; r <= 5; r++) {
            Scene.bare().finds("at(" + r + ", 0)", NOTHING);
        }
        for (int t = 0; t <= 3; t++) {
            Scene.bare().finds("put(" + t + ", 0, 97)", NOTHING);
        }
        for (int w = 0; w <= 7; w++) {
            Scene.bare().finds("size(" + w + ")", NOTHING);
        }
    }

    private static void newHasThreeLetters() {
        Scene.bare().answers("count(0)", 3);
        Scene.bare().answers("letters(6)", 3);
        Scene.bare().row(0, 2).answers("word(0, 0)", 1);
        Scene.bare().row(0, 3).finds("word(0, 0)", 3);
    }

    private static void rowOfNoughts() {
        Scene.bare().answers("row(0, 0)", 0, "count(1)", 1, "ROW 0", "");
        Scene.bare().answers("row(0, 1)", 1, "ROW 0", "0");
        Scene.bare().answers("row(5, 40)", 40, "ROW 5", NOUGHTS);
        fullRows().answers("row(0, 2)", 2, "ROW 0", "0,0", "row(0, 40)", 40, "ROW 0", NOUGHTS, "count(1)", 2);
        fullRows().answers("row(0, 0)", 0, "ROW 0", "");
    }

    private static void rowBad() {
        Scene.full().takesJust("row(%, 3)", 0, 5);
        Scene.full().takes("row(0, 40)");
        Scene.full().refuses("row(0, 41)", BAD);
        Scene.full().refuses("row(0, MAX)", BAD);
        Scene.bare().refuses("row(0, 41)", BAD);
        Scene.full().refuses("row(6, -1)", BAD);
        Scene.full().refuses("row(-1, MIN)", BAD);
    }

    private static void rowSize() {
        Scene.full().takes("row(0, 0)");
        Scene.full().finds("row(0, -1)", SIZE);
        Scene.full().finds("row(5, MIN)", SIZE);
        Scene.bare().finds("row(0, -1)", SIZE);
    }

    private static void lay() {
        Scene.full().answers("lay(0, 0, MAX)", 1, "asked()", 1, "lay(0, 0, MIN)", 1, "asked()", Integer.MAX_VALUE,
                "lay(0, 0, -1)", 1, "asked()", Integer.MIN_VALUE, "ROW 0", "-1,2,0");
        Scene.full().answers("lay(0, 2, 9)", 1, "asked()", 0, "ROW 0", "1,2,9");
        fullRows().answers("lay(0, 39, 7)", 1, "asked()", 139, "at(0, 39)", 1, "asked()", 7, "at(0, 38)", 1,
                "asked()", 138);
    }

    private static void layBad() {
        Scene.full().row(3, 0).takesJust("lay(%, 0, 1)", 0, 5);
        Scene.bare().refuses("lay(6, 0, 1)", BAD);
        Scene.holed().refuses("lay(-1, -1, 1)", BAD);
    }

    private static void layNothing() {
        Scene.bare().finds("lay(0, 0, 1)", NOTHING);
        Scene.holed().finds("lay(5, 0, 1)", NOTHING);
        Scene.holed().finds("lay(1, 40, 1)", NOTHING);
        Scene.holed().finds("lay(1, -1, 1)", NOTHING);
    }

    private static void layBeyond() {
        Scene.full().finds("lay(0, 3, 1)", BEYOND);
        Scene.full().finds("lay(0, -1, 1)", BEYOND);
        Scene.full().finds("lay(0, MAX, 1)", BEYOND);
        Scene.full().finds("lay(0, MIN, 1)", BEYOND);
        Scene.full().finds("lay(3, 0, 1)", BEYOND);
        fullRows().finds("lay(0, 40, 1)", BEYOND);
        fullRows().does("row(0, 2)").finds("lay(0, 2, 1)", BEYOND);
    }

    private static void at() {
        Scene.full().answers("at(0, 0)", 1, "asked()", 1, "at(0, 2)", 1, "asked()", 0, "ROW 0", "1,2,0");
        fullRows().answers("at(0, 39)", 1, "asked()", 139);
        Scene.bare().does("row(5, 1)", "lay(5, 0, MIN)").answers("at(5, 0)", 1, "asked()", Integer.MIN_VALUE);
    }

    private static void atBad() {
        Scene.full().row(3, 0).takesJust("at(%, 0)", 0, 5);
        Scene.bare().refuses("at(6, 0)", BAD);
        Scene.holed().refuses("at(-1, -1)", BAD);
    }

    private static void atNothing() {
        Scene.bare().finds("at(0, 0)", NOTHING);
        Scene.holed().finds("at(5, 0)", NOTHING);
        Scene.holed().finds("at(1, 40)", NOTHING);
        Scene.holed().finds("at(1, -1)", NOTHING);
    }

    private static void atBeyond() {
        Scene.full().finds("at(0, 3)", BEYOND);
        Scene.full().finds("at(0, -1)", BEYOND);
        Scene.full().finds("at(0, MAX)", BEYOND);
        Scene.full().finds("at(0, MIN)", BEYOND);
        Scene.full().finds("at(3, 0)", BEYOND);
        fullRows().finds("at(0, 40)", BEYOND);
        fullRows().does("row(0, 2)").finds("at(0, 2)", BEYOND);
    }

    private static void tear() {
        Scene.full().answers("tear(0)", 1, "ROW 0", "missing", "ROW 1", "5,-6", "count(1)", 5);
        Scene.full().answers("tear(3)", 1, "ROW 3", "missing", "tear(5)", 1, "count(1)", 4);
        Scene.full().answers("tear(0)", 1, "row(0, 3)", 3, "ROW 0", "0,0,0");
        Scene.full().answers("tear(0)", 1, "WORD 0", "abcab");
    }

    private static void tearBad() {
        Scene.full().takesJust("tear(%)", 0, 5);
        Scene.bare().refuses("tear(6)", BAD);
    }

    private static void tearNothing() {
        Scene.bare().finds("tear(0)", NOTHING);
        Scene.bare().finds("tear(5)", NOTHING);
        Scene.holed().finds("tear(1)", NOTHING);
    }

    private static void copy() {
        Scene.full().answers("copy(0, 1, 1, 0, 2)", 1, "ROW 1", "2,0", "ROW 0", "1,2,0");
        Scene.full().answers("copy(0, 0, 1, 1, 1)", 1, "ROW 1", "5,1");
        Scene.full().answers("copy(0, 0, 1, 0, 0)", 1, "ROW 1", "5,-6");
        Scene.full().answers("copy(3, 0, 3, 0, 0)", 1, "ROW 3", "");
        fullRows().answers("copy(0, 0, 5, 0, 40)", 1, "ROW 5", numbers(100, 40));
        fullRows().answers("copy(0, 39, 5, 0, 1)", 1, "at(5, 0)", 1, "asked()", 139);
        Scene.full().answers("copy(0, 1, 1, 0, 2)", 1, "asked()", -6);
    }

    private static void copyOfItself() {
        fullRows().answers("copy(0, 0, 0, 1, 39)", 1, "ROW 0", "100," + numbers(100, 39));
        fullRows().answers("copy(0, 1, 0, 0, 39)", 1, "ROW 0", numbers(101, 39) + ",139");
        fullRows().answers("copy(0, 0, 0, 0, 40)", 1, "ROW 0", numbers(100, 40));
        Scene.full().answers("copy(0, 0, 0, 1, 2)", 1, "ROW 0", "1,1,2");
        Scene.full().answers("copy(0, 1, 0, 0, 2)", 1, "ROW 0", "2,0,0");
    }

    private static void copyBad() {
        Scene.full().takesJust("copy(%, 0, 4, 0, 0)", 0, 5);
        Scene.full().takesJust("copy(4, 0, %, 0, 0)", 0, 5);
        Scene.bare().refuses("copy(6, 0, 0, 0, 0)", BAD);
        Scene.bare().refuses("copy(0, 0, 6, 0, 0)", BAD);
        Scene.full().refuses("copy(6, 0, 0, 0, -1)", BAD);
        Scene.full().refuses("copy(0, 0, 6, 0, -1)", BAD);
        Scene.full().refuses("copy(0, 9, 6, 9, 9)", BAD);
        Scene.full().refuses("copy(-1, 9, 0, 9, 9)", BAD);
    }

    private static void copySize() {
        Scene.full().finds("copy(0, 0, 1, 0, -1)", SIZE);
        Scene.full().finds("copy(0, 0, 1, 0, MIN)", SIZE);
        Scene.full().finds("copy(0, 9, 1, -9, -1)", SIZE);
        Scene.holed().finds("copy(1, 0, 0, 0, -1)", SIZE);
        Scene.holed().finds("copy(0, 0, 1, 0, -1)", SIZE);
        Scene.bare().finds("copy(0, 0, 0, 0, -1)", SIZE);
    }

    private static void copyNothing() {
        Scene.holed().finds("copy(0, 0, 1, 0, 1)", NOTHING);
        Scene.holed().finds("copy(1, 0, 0, 0, 1)", NOTHING);
        Scene.holed().finds("copy(1, 0, 3, 0, 1)", NOTHING);
        Scene.holed().finds("copy(1, 0, 1, 0, 0)", NOTHING);
        Scene.holed().finds("copy(0, 9, 1, 0, 1)", NOTHING);
        Scene.holed().finds("copy(1, 0, 0, 9, 1)", NOTHING);
        Scene.bare().finds("copy(0, 0, 5, 0, 0)", NOTHING);
    }

    private static void copyBeyond() {
        Scene.full().takes("copy(0, 3, 1, 2, 0)");
        Scene.full().finds("copy(0, 4, 1, 0, 0)", BEYOND);
        Scene.full().finds("copy(0, 0, 1, 3, 0)", BEYOND);
        Scene.full().finds("copy(0, -1, 1, 0, 0)", BEYOND);
        Scene.full().finds("copy(0, 0, 1, -1, 0)", BEYOND);
        Scene.full().takes("copy(0, 1, 0, 0, 2)");
        Scene.full().finds("copy(0, 2, 0, 0, 2)", BEYOND);
        Scene.full().takes("copy(0, 0, 0, 1, 2)");
        Scene.full().finds("copy(0, 0, 0, 2, 2)", BEYOND);
        Scene.full().finds("copy(0, 0, 1, 0, 3)", BEYOND);
        Scene.full().finds("copy(1, 0, 0, 0, 3)", BEYOND);
        Scene.full().finds("copy(0, -1, 1, 0, 2)", BEYOND);
        Scene.full().finds("copy(0, 0, 1, -1, 2)", BEYOND);
        Scene.full().finds("copy(0, MAX, 1, 0, 1)", BEYOND);
        Scene.full().finds("copy(0, 0, 1, MAX, 1)", BEYOND);
        Scene.full().finds("copy(0, 1, 1, 1, MAX)", BEYOND);
        Scene.full().finds("copy(0, MAX, 1, MAX, MAX)", BEYOND);
        Scene.full().finds("copy(0, MIN, 1, 0, MAX)", BEYOND);
        Scene.full().finds("copy(0, MIN, 1, MIN, 0)", BEYOND);
        fullRows().takes("copy(0, 0, 5, 0, 40)");
        fullRows().finds("copy(0, 0, 5, 0, 41)", BEYOND);
        Scene.full().finds("copy(3, 0, 3, 0, 1)", BEYOND);
    }

    private static Scene all40(String value) {
        Scene scene = Scene.bare().does("row(0, 40)");
        for (int i = 0; i < 40; i++) {
            scene.does("lay(0, " + i + ", " + value + ")");
        }
        return scene;
    }

    private static void mean() {
        Scene.bare().row(0, -7).answers("mean(0)", 1, "asked()", -7);
        fullRows().answers("mean(0)", 1, "asked()", 119);
        all40("MAX").answers("mean(0)", 1, "asked()", Integer.MAX_VALUE);
        all40("MIN").answers("mean(0)", 1, "asked()", Integer.MIN_VALUE);
        Scene.bare().does("row(0, 2)", "lay(0, 0, MIN)", "lay(0, 1, MAX)").answers("mean(0)", 1, "asked()", 0);
        Scene.full().answers("mean(5)", 1, "asked()", 2, "ROW 5", "2,2");
    }

    private static void meanIsCut() {
        Scene.bare().row(0, 1, 2).answers("mean(0)", 1, "asked()", 1);
        Scene.bare().row(0, 2, 3, 3).answers("mean(0)", 1, "asked()", 2);
        Scene.bare().row(0, -1, -2).answers("mean(0)", 1, "asked()", -1);
        Scene.bare().row(0, -2, -3, -3).answers("mean(0)", 1, "asked()", -2);
        Scene.bare().row(0, 0, 0, -1).answers("mean(0)", 1, "asked()", 0);
        Scene.bare().row(0, 3, 3, 3).answers("mean(0)", 1, "asked()", 3);
    }

    private static void meanBad() {
        Scene.full().row(3, 0).takesJust("mean(%)", 0, 5);
        Scene.bare().refuses("mean(6)", BAD);
    }

    private static void meanNothing() {
        Scene.bare().finds("mean(0)", NOTHING);
        Scene.holed().finds("mean(3)", NOTHING);
        Scene.holed().finds("mean(5)", NOTHING);
    }

    private static void meanNought() {
        Scene.full().finds("mean(3)", NOUGHT);
        Scene.bare().does("row(0, 0)").finds("mean(0)", NOUGHT);
        Scene.bare().answers("row(0, 1)", 1, "mean(0)", 1, "asked()", 0);
    }
}
