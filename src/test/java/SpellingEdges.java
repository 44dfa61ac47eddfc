/** What 'Terms' says of the TEXT of a WORD and of its FAULT, sentence by sentence. */
final class SpellingEdges {
    private static final int NONE = WithinWords.NONE;

    private SpellingEdges() {
    }

    static void all() {
        term("A TEXT of a WORD: items: a letter a .. f (97 ..; one of LETTERS),", SpellingEdges::letters);
        term("or ( (40) items ) (41), not none;", SpellingEdges::brackets);
        term("each with a figure 1 .. 9 behind it, or not: so many times.", SpellingEdges::figures);
        term("No blanks within;", SpellingEdges::blanksWithin);
        term("blanks (32) ahead and behind as many as wanted;", SpellingEdges::blanksAround);
        term("the whole may be none.", SpellingEdges::none);
        term("Brackets within brackets: 4 deep.", SpellingEdges::depth);
        term("A FAULT is the first place at which it can't go on so", SpellingEdges::firstPlace);
        term("(a fifth bracket: it;", SpellingEdges::fifthBracket);
        term("the TEXT's size, if its end comes too early).", SpellingEdges::earlyEnd);
    }

    private static void term(String words, Runnable test) {
        Sentence.of(Sentence.TERMS, words, test);
    }

    /** The text has its fault there, so no word is told. */
    private static void faulty(String signs, int place) {
        Scene scene = Scene.bare().text(0, signs);
        scene.answers("fault(0)", place);
        scene.refuses("tell(0, 0)", WithinWords.STATE);
    }

    private static void spells(String signs, String letters) {
        Scene.bare().text(0, signs).answers("fault(0)", NONE, "tell(0, 0)", letters.length(), "WORD 0", letters);
    }

    private static void letters() {
        String all = "abcdef";
        for (int k = 1; k <= 6; k++) {
            for (int c = 0; c < 6; c++) {
                Scene scene = Scene.bare().does("letters(" + k + ")").text(0, all.substring(c, c + 1));
                scene.answers("fault(0)", c < k ? NONE : 0, "tell(0, 0)", c < k ? 1 : WithinWords.STATE);
            }
        }
        Scene six = Scene.bare().does("letters(6)");
        six.text(0, "abcdef").answers("tell(0, 0)", 6, "WORD 0", "abcdef");
        six.text(0, "g").answers("fault(0)", 0);
        six.text(0, "`").answers("fault(0)", 0);
        six.text(0, "A").answers("fault(0)", 0);
    }

    private static void brackets() {
        spells("(a)", "a");
        spells("(abc)", "abc");
        spells("(a)(b)c(a)", "abca");
        faulty("()", 1);
        faulty("a()", 2);
        faulty("(())", 2);
        faulty("(a())", 3);
        faulty("()2", 1);
        faulty(")", 0);
        faulty("a)", 1);
        faulty("(a))", 3);
        faulty("'", 0);
        faulty("*", 0);
        faulty("[a]", 0);
    }

    private static void figures() {
        for (int n = 1; n <= 9; n++) {
            spells("a" + n, "a".repeat(n));
            spells("(ab)" + n, "ab".repeat(n));
        }
        spells("ab3c", "abbbc");
        spells("(a2b)2", "aabaab");
        spells("a(b)2c", "abbc");
        spells("(ab)3", "ababab");
        faulty("a0", 1);
        faulty("(a)0", 3);
        faulty("a:", 1);
        faulty("a/", 1);
        faulty("a11", 2);
        faulty("(a)22", 4);
        faulty("1", 0);
        faulty("1a", 0);
        faulty("(1a)", 1);
        faulty("a(2)", 2);
        faulty("a2(2b)", 3);
    }

    private static void blanksWithin() {
        faulty("a b", 2);
        faulty("a   b", 4);
        faulty("a 2", 2);
        faulty("(a) (b)", 4);
        faulty("(a) 2", 4);
        faulty("( a)", 1);
        faulty("(a )", 2);
        faulty("(a b)", 2);
        faulty("(a) )", 4);
        faulty("(  ", 1);
    }

    private static void blanksAround() {
        spells(" a", "a");
        spells("a ", "a");
        spells(" ".repeat(59) + "a", "a");
        spells("a" + " ".repeat(59), "a");
        spells(" ".repeat(29) + "(a)2" + " ".repeat(27), "aa");
        faulty("\ta", 0);
        faulty("a\n", 1);
        faulty("a" + (char) 0, 1);
        faulty("a" + (char) 160, 1);
        faulty("!a", 0);
        faulty((char) 31 + "a", 0);
    }

    private static void none() {
        spells("", "");
        spells(" ", "");
        spells(" ".repeat(60), "");
    }

    private static void depth() {
        spells("((((a))))", "a");
        spells("((((a)2)2)2)2", "a".repeat(16));
        spells("((((a)(b))(c)))", "abc");
        spells("(a(b(c(a))))((((b))))", "abcab");
        spells("(a)".repeat(20), "a".repeat(20));
        faulty("(((((a)))))", 4);
        faulty("((((a(b)))))", 5);
    }

    private static void firstPlace() {
        faulty("z", 0);
        faulty("az", 1);
        faulty("zz", 0);
        faulty(" z z", 1);
        faulty("(z", 1);
        faulty("ab()z", 3);
        faulty("a".repeat(59) + "z", 59);
        faulty("a" + " ".repeat(58) + "a", 59);
        faulty("((((a9)9)9)9)9z", 14);
    }

    private static void fifthBracket() {
        faulty("(((((", 4);
        faulty("((((((", 4);
        faulty(" (((((a", 5);
        faulty("((((a)(", 7);
        faulty("((((a)((", 7);
        faulty("((((a))((b)((", 12);
        faulty("((((a))((b)(b(", 13);
    }

    /** A text that ended too early leaves nothing behind for the next one. */
    private static void earlyEnd() {
        Scene.bare().text(0, "(((a").text(1, "a)").text(2, "2").text(3, "((((a))))").answers("fault(0)", 4,
                "fault(1)", 1, "fault(0)", 4, "fault(2)", 0, "fault(0)", 4, "fault(3)", NONE,
                "tell(0, 0)", WithinWords.STATE, "tell(0, 3)", 1, "WORD 0", "a");
        faulty("(", 1);
        faulty("(a", 2);
        faulty("((((a)))", 8);
        faulty("((((", 4);
        faulty("(a2", 3);
        faulty("a".repeat(59) + "(", 60);
        faulty(" ".repeat(58) + "(a", 60);
    }
}
