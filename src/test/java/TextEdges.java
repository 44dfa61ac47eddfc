/** Promises 8, 9, 12 and 13, sentence by sentence. */
final class TextEdges {
    private static final int BAD = WithinWords.BAD, FULL = WithinWords.FULL, STATE = WithinWords.STATE;
    private static final int NONE = WithinWords.NONE;
    private static final int NOTHING = 1, BEYOND = 2, SIZE = 5;

    private TextEdges() {
    }

    static void all() {
        Sentence.of(8, "A TEXT is there with n blanks: n.", TextEdges::textOfBlanks);
        Sentence.of(8, "BAD: also n above 60", TextEdges::textBad);
        Sentence.of(8, "SIZE: below 0.", TextEdges::textSize);
        Sentence.of(9, "Byte i of a TEXT is v,", TextEdges::put);
        Sentence.of(9, "cut to a byte: what it was, and 1000 more.", TextEdges::putCuts);
        Sentence.of(9, "BAD", TextEdges::putBad);
        Sentence.of(9, "NOTHING", TextEdges::putNothing);
        Sentence.of(9, "BEYOND.", TextEdges::putBeyond);
        Sentence.of(12, "A FAULT of a TEXT", TextEdges::fault);
        Sentence.of(12, "NONE: there is none.", TextEdges::faultNone);
        Sentence.of(12, "BAD", TextEdges::faultBad);
        Sentence.of(12, "NOTHING.", TextEdges::faultNothing);
        Sentence.of(13, "A WORD by a TEXT (anew): its size.", TextEdges::tell);
        Sentence.of(13, "BAD", TextEdges::tellBad);
        Sentence.of(13, "NOTHING", TextEdges::tellNothing);
        Sentence.of(13, "STATE: a FAULT", TextEdges::tellState);
        Sentence.of(13, "FULL: more than 40.", TextEdges::tellFull);
        Sentence.of(13, "(In this order.)", TextEdges::tellOrder);
    }

    private static Scene text(String signs) {
        return Scene.bare().text(0, signs);
    }

    private static void textOfBlanks() {
        Scene.bare().answers("text(0, 0)", 0, "count(2)", 1, "put(0, 0, 97)", -3, "finding()", BEYOND);
        Scene.bare().answers("text(0, 1)", 1, "put(0, 0, 97)", 1032, "put(0, 1, 97)", -3, "finding()", BEYOND);
        Scene.bare().answers("text(3, 60)", 60, "put(3, 0, 97)", 1032, "put(3, 59, 97)", 1032, "put(3, 60, 97)", -3);
        Scene anew = Scene.bare().text(0, "a".repeat(60));
        for (int i = 0; i < 60; i++) {
            anew.answers("text(0, 60)", 60, "put(0, " + i + ", 97)", 1032);
        }
        anew.answers("text(0, 2)", 2, "put(0, 2, 97)", -3, "text(0, 3)", 3, "put(0, 2, 97)", 1032, "count(2)", 1);
        anew.answers("text(0, 0)", 0, "put(0, 0, 97)", -3, "count(2)", 1);
    }

    private static void textBad() {
        Scene.full().takesJust("text(%, 3)", 0, 3);
        Scene.full().takes("text(0, 60)");
        Scene.full().refuses("text(0, 61)", BAD);
        Scene.full().refuses("text(0, MAX)", BAD);
        Scene.bare().refuses("text(0, 61)", BAD);
        Scene.full().refuses("text(4, -1)", BAD);
        Scene.full().refuses("text(-1, MIN)", BAD);
    }

    private static void textSize() {
        Scene.full().takes("text(0, 0)");
        Scene.full().finds("text(0, -1)", SIZE);
        Scene.full().finds("text(3, MIN)", SIZE);
        Scene.bare().finds("text(0, -1)", SIZE);
    }

    private static void put() {
        Scene.full().answers("put(0, 0, 98)", 1097, "put(0, 0, 0)", 1098, "put(0, 0, 1)", 1000);
        Scene.full().answers("put(0, 2, 98)", 1050, "put(0, 1, 0)", 1098, "put(0, 2, 0)", 1098);
        text("a".repeat(59) + "b").answers("put(0, 59, 99)", 1098, "put(0, 59, 0)", 1099, "put(0, 58, 0)", 1097);
        Scene.full().answers("put(0, 0, 98)", 1097, "WORD 2", "abab", "many()", 3, "asked()", -6);
    }

    private static void putCuts() {
        String[] values = {"127", "128", "-128", "-129", "255", "256", "-256", "-1", "353", "MAX", "MIN", "32768"};
        int[] bytes = {127, -128, -128, 127, -1, 0, 0, -1, 97, -1, 0, 0};
        for (int i = 0; i < values.length; i++) {
            text("a").answers("put(0, 0, " + values[i] + ")", 1097, "put(0, 0, 0)", 1000 + bytes[i]);
        }
        text("a").answers("put(0, 0, 353)", 1097, "tell(0, 0)", 1, "WORD 0", "a");
        text("a").answers("put(0, 0, 225)", 1097, "fault(0)", 0);
    }

    private static void putBad() {
        Scene.full().text(1, "a").takesJust("put(%, 0, 97)", 0, 3);
        Scene.bare().refuses("put(4, 0, 97)", BAD);
        Scene.holed().refuses("put(-1, -1, 97)", BAD);
    }

    private static void putNothing() {
        Scene.bare().finds("put(0, 0, 97)", NOTHING);
        Scene.holed().finds("put(3, 0, 97)", NOTHING);
        Scene.holed().finds("put(1, 60, 97)", NOTHING);
        Scene.holed().finds("put(1, -1, 97)", NOTHING);
    }

    private static void putBeyond() {
        Scene.full().finds("put(0, 3, 97)", BEYOND);
        Scene.full().finds("put(0, -1, 97)", BEYOND);
        Scene.full().finds("put(0, MAX, 97)", BEYOND);
        Scene.full().finds("put(0, MIN, 97)", BEYOND);
        Scene.full().finds("put(1, 0, 97)", BEYOND);
        text("a".repeat(60)).finds("put(0, 60, 97)", BEYOND);
    }

    private static void fault() {
        text("z").answers("fault(0)", 0);
        text("a".repeat(59) + "z").answers("fault(0)", 59);
        text("a".repeat(59) + "(").answers("fault(0)", 60);
        Scene.full().answers("fault(3)", 2, "many()", 3, "asked()", -6, "finding()", 3);
    }

    private static void faultNone() {
        text("").answers("fault(0)", NONE);
        text("a".repeat(60)).answers("fault(0)", NONE);
        text(" ".repeat(60)).answers("fault(0)", NONE);
        Scene.full().hasNone("fault(0)");
    }

    private static void faultBad() {
        Scene.full().takesJust("fault(%)", 0, 3);
        Scene.bare().refuses("fault(4)", BAD);
    }

    private static void faultNothing() {
        Scene.bare().finds("fault(0)", NOTHING);
        Scene.bare().finds("fault(3)", NOTHING);
        Scene.holed().finds("fault(1)", NOTHING);
    }

    private static void tell() {
        text("").answers("tell(0, 0)", 0, "WORD 0", "", "kind(0)", 1, "mark(0, 1)", 0);
        text(" ".repeat(60)).answers("tell(7, 0)", 0, "WORD 7", "", "mark(7, 1)", 60);
        text(" ".repeat(59) + "c").answers("tell(7, 0)", 1, "WORD 7", "c", "mark(7, 1)", 60);
        text("a".repeat(39) + "c").answers("tell(0, 0)", 40, "WORD 0", "a".repeat(39) + "c");
        for (int w = 0; w <= 7; w++) {
            Scene.full().answers("tell(" + w + ", 0)", 3, "WORD " + w, "abb", "kind(" + w + ")", 1,
                    "mark(" + w + ", 1)", 3, "mark(" + w + ", 2)", -3);
        }
        Scene.full().answers("tell(0, 0)", 3, "text(0, 1)", 1, "WORD 0", "abb", "mark(0, 1)", 3);
    }

    private static void tellBad() {
        Scene.full().takesJust("tell(%, 0)", 0, 7);
        Scene.full().text(3, "c").takesJust("tell(0, %)", 0, 3);
        Scene.bare().refuses("tell(8, 0)", BAD);
        Scene.bare().refuses("tell(0, 4)", BAD);
    }

    private static void tellNothing() {
        Scene.bare().finds("tell(0, 0)", NOTHING);
        Scene.bare().finds("tell(7, 3)", NOTHING);
        Scene.holed().finds("tell(0, 1)", NOTHING);
        Scene.holed().finds("tell(1, 3)", NOTHING);
    }

    private static void tellState() {
        Scene.full().refuses("tell(0, 3)", STATE);
        text("d").refuses("tell(0, 0)", STATE);
        text("d").does("letters(4)").answers("tell(0, 0)", 1, "WORD 0", "d");
        text("a".repeat(59) + "z").refuses("tell(0, 0)", STATE);
        text("a".repeat(39) + "(").refuses("tell(0, 0)", STATE);
    }

    private static void tellFull() {
        text("a".repeat(40)).takes("tell(0, 0)");
        text("a".repeat(41)).refuses("tell(0, 0)", FULL);
        text("a".repeat(60)).refuses("tell(0, 0)", FULL);
        text("(ab)9(ab)9(ab)2").answers("tell(0, 0)", 40, "WORD 0", "ab".repeat(20));
        text("(ab)9(ab)9(ab)2a").refuses("tell(0, 0)", FULL);
        text("a(abc)9(abc)4").answers("tell(0, 0)", 40, "WORD 0", "a" + "abc".repeat(13));
        text("(a5b5)4").answers("tell(0, 0)", 40, "WORD 0", "aaaaabbbbb".repeat(4));
        text("(a5b5)5").refuses("tell(0, 0)", FULL);
        text("((((a9)9)9)9)9").refuses("tell(0, 0)", FULL);
        text("((((a9)9)9)9)9".repeat(4)).refuses("tell(0, 0)", FULL);
        text("((((a9b9a9b9a9b9a9b9a9b9a9b9a9b9a9b9a9b9a9b9a9b9a9b9)9)9)9)9").refuses("tell(0, 0)", FULL);
        Scene.full().text(0, "a".repeat(41)).refuses("tell(4, 0)", FULL);
    }

    private static void tellOrder() {
        Scene.holed().refuses("tell(8, 1)", BAD);
        Scene.holed().refuses("tell(-1, 4)", BAD);
        Scene.full().refuses("tell(8, 3)", BAD);
        text("a".repeat(41)).refuses("tell(8, 0)", BAD);
        text("a".repeat(41) + "z").refuses("tell(0, 0)", STATE);
        text("z" + "a".repeat(41)).refuses("tell(0, 0)", STATE);
        text("((((a9)9)9)9)9(").refuses("tell(0, 0)", STATE);
        text("((((a9)9)9)9)9()").refuses("tell(0, 0)", STATE);
        text("((((a9)9)9)9)9(a").refuses("tell(0, 0)", STATE);
    }
}
