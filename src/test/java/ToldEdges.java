/** Promises 42 to 49, sentence by sentence. */
final class ToldEdges {
    private static final int BAD = WithinWords.BAD;
    private static final String A40 = "a".repeat(40);

    private ToldEdges() {
    }

    static void all() {
        Sentence.of(42, "What the latest lay(), at(), mean(), arches() that was not refused told;", ToldEdges::asked);
        Sentence.of(42, "0 before.", () -> Scene.bare().answers("asked()", 0));
        Sentence.of(43, "What the latest ways(), places(), inner(), rank(), absent(), both()", ToldEdges::many);
        Sentence.of(43, "that was not refused (nor NONE) told;", ToldEdges::manyNotRefused);
        Sentence.of(43, "0 before.", () -> Scene.bare().answers("many()", 0));
        Sentence.of(44, "The upper number of the fraction that was told last;", ToldEdges::upper);
        Sentence.of(44, "0 before.", () -> Scene.bare().answers("upper()", 0));
        Sentence.of(45, "Its lower number;", ToldEdges::lower);
        Sentence.of(45, "1 before.", () -> Scene.bare().answers("lower()", 1));
        Sentence.of(46, "0 LETTERS,", () -> counts(0, 3, 3));
        Sentence.of(46, "1 ROWS,", () -> counts(1, 6, 3));
        Sentence.of(46, "2 TEXTS,", () -> counts(2, 4, 2));
        Sentence.of(46, "3 WORDS,", () -> counts(3, 8, 4));
        Sentence.of(46, "4 MADE ones (TURNED, DROPPED, too),", () -> counts(4, 3, 1));
        Sentence.of(46, "5 all LETTERS of WORDS together.", ToldEdges::countLetters);
        Sentence.of(46, "BAD.", ToldEdges::countBad);
        Sentence.of(47, "The latest FINDING", ToldEdges::finding);
        Sentence.of(47, "(0 before any).", ToldEdges::findingBefore);
        Sentence.of(48, "How often a FINDING (1 .. 5) was answered.", ToldEdges::findings);
        Sentence.of(48, "BAD.", ToldEdges::findingsBad);
        Sentence.of(49, "h = 17; then h = 31 h + v for each v: count() 0 to 5;", ToldEdges::digestCounts);
        Sentence.of(49, "of each WORD (-1 once: missing)", ToldEdges::digestMissing);
        Sentence.of(49, "KIND, what mark() tells by its own KIND (KIND 0: 0), size, LETTERS;", ToldEdges::digestWords);
        Sentence.of(49, "of each ROW its size (-1: missing) and places,", ToldEdges::digestRows);
        Sentence.of(49, "of each TEXT likewise.", ToldEdges::digestTexts);
    }

    private static void asked() {
        Scene.full().answers("asked()", -6, "lay(0, 0, 9)", 1, "asked()", 1, "at(0, 0)", 1, "asked()", 9, "mean(1)", 1,
                "asked()", 0, "arches(0)", 1, "asked()", 2);
        String[] refused = {"lay(0, 3, 1)", "lay(6, 0, 1)", "lay(1, 0, 1)", "at(0, -1)", "at(6, 0)", "at(1, 0)",
            "mean(1)", "mean(-1)", "arches(1)", "arches(8)"};
        for (String call : refused) {
            Scene.holed().answers(call, Calls.answer(Scene.holed().make(), call), "asked()", -6);
        }
        Scene.full().finds("mean(3)", 4);
        Scene.full().answers("at(1, 0)", 1, "asked()", 5, "count(1)", 6, "asked()", 5);
    }

    private static void many() {
        Scene.full().answers("many()", 3, "ways(0, 6)", 0, "many()", 0, "places(0, 1, false)", 4, "many()", 27,
                "inner(0, 2)", 1, "many()", 8, "rank(0, 1)", 1, "many()", 1, "absent(5, 0)", 1, "many()", 3,
                "both(0, 1)", 1, "many()", 4, "many()", 4);
        String[] others = {"way(0, 1, 0, true)", "judge(0, 1, 2)", "bar(0, 1)", "byRank(0, 2, 1, 0)", "arches(0)",
            "added(0, 9)", "alike(0, 1, 2)", "parting(0, 1, 0)", "common(3, 0)", "cover(3, 0)", "twins(0, 1, 0)",
            "odds(0, 1)", "byChance(1, 3)", "count(3)", "drop(0, 0, 1)", "mean(1)"};
        for (String call : others) {
            Scene.full().answers(call, Calls.answer(Scene.full().make(), call), "many()", 3);
        }
    }

    private static void manyNotRefused() {
        String[] refused = {"ways(0, 1)", "ways(8, 0)", "places(0, 1, true)", "places(0, 6, true)", "inner(1, 2)",
            "inner(0, 41)", "rank(0, 1)", "rank(0, 6)", "absent(1, 0)", "absent(0, 6)", "both(0, 1)", "both(0, -1)"};
        for (String call : refused) {
            long answer = Calls.answer(Scene.holed().make(), call);
            Check.holds(Sentence.label() + call + " is refused or NONE", answer < 0);
            Scene.holed().answers(call, answer, "many()", 3);
        }
    }

    private static void upper() {
        Scene.full().answers("upper()", 3, "odds(0, 6)", 1, "upper()", 0, "byChance(1, 3)", 1, "upper()", 7,
                "upper()", 7);
        Scene.full().answers("odds(1, 0)", -3, "upper()", 3, "byChance(8, 0)", -1, "upper()", 3);
    }

    private static void lower() {
        Scene.full().answers("lower()", 10, "odds(0, 6)", 1, "lower()", 1, "byChance(1, 3)", 1, "lower()", 27);
        Scene.full().answers("odds(1, 0)", -3, "lower()", 10, "byChance(0, 21)", -1, "lower()", 10);
    }

    private static void counts(int what, int inFull, int inHoled) {
        Scene.bare().answers("count(" + what + ")", what == 0 ? 3 : 0);
        Scene.full().answers("count(" + what + ")", inFull);
        Scene.holed().answers("count(" + what + ")", inHoled);
    }

    private static void countLetters() {
        Scene.bare().answers("count(5)", 0);
        Scene.with(1, "", "").answers("count(5)", 0);
        Scene.full().answers("count(5)", 5 + 2 + 4 + 7 + 7 + 0 + 3 + 5);
        Scene.holed().answers("count(5)", 5 + 4 + 7 + 3);
        SeveralEdges.ofSizes(40, 40, 40, 40, 40, 40, 40, 40).answers("count(5)", 320, "erase(0)", 1, "count(5)", 280);
    }

    private static void countBad() {
        Scene.full().takesJust("count(%)", 0, 5);
        Scene.bare().refuses("count(6)", BAD);
        Scene.bare().refuses("count(-1)", BAD);
    }

    private static void finding() {
        Scene.full().answers("finding()", 3, "at(0, 3)", -3, "finding()", 2, "row(0, -1)", -3, "finding()", 5,
                "mean(3)", -3, "finding()", 4, "erase(0)", 1, "size(0)", -3, "finding()", 1, "finding()", 1);
        Scene.full().answers("size(8)", -1, "finding()", 3, "letters(1)", -4, "finding()", 3, "way(0, 6, 0, true)", -9,
                "finding()", 3, "size(0)", 5, "finding()", 3);
    }

    private static void findingBefore() {
        Scene.bare().answers("finding()", 0);
        Scene.bare().answers("row(6, 0)", -1, "letters(0)", -1, "row(0, 1)", 1, "finding()", 0);
    }

    private static void findings() {
        Scene.bare().answers("findings(1)", 0, "findings(2)", 0, "findings(3)", 0, "findings(4)", 0, "findings(5)", 0);
        Scene.full().answers("findings(1)", 1, "findings(2)", 2, "findings(3)", 3, "findings(4)", 1, "findings(5)", 2);
        WithinWords x = new WithinWords();
        for (int i = 1; i < 512; i++) {
            Check.due("48: size(0)", x.size(0), WithinWords.FINDING);
        }
        Check.due("48: findings(1) at the 512th call", x.findings(1), 511);
    }

    private static void findingsBad() {
        Scene.full().takesJust("findings(%)", 1, 5);
        Scene.bare().refuses("findings(0)", BAD);
        Scene.bare().refuses("findings(6)", BAD);
    }

    /** The digest of these numbers, written with blanks; "6x-1" is -1 six times. */
    private static long mixed(String numbers) {
        long h = 17;
        for (String told : numbers.split(" ")) {
            String[] parts = told.split("x");
            int times = parts.length == 1 ? 1 : Integer.parseInt(parts[0]);
            for (int i = 0; i < times; i++) {
                h = 31 * h + Long.parseLong(parts[parts.length - 1]);
            }
        }
        return h;
    }

    private static void digests(Scene scene, String numbers) {
        scene.answers("digest()", mixed(numbers));
    }

    private static void digestCounts() {
        digests(Scene.bare(), "3 5x0 8x-1 6x-1 4x-1");
        digests(Scene.with(6), "6 5x0 8x-1 6x-1 4x-1");
        digests(Scene.with(3, "b").does("turn(7, 0, 0)", "row(5, 1)", "text(3, 1)"),
                "3 1 1 2 1 2 0 0 1 1 6x-1 3 0 1 1 5x-1 1 0 3x-1 1 32");
    }

    private static void digestMissing() {
        digests(Scene.with(3, "", "").does("erase(0)"), "3 0 0 1 0 0 -1 0 0 0 6x-1 6x-1 4x-1");
        digests(Scene.with(3, "c").does("turn(0, 0, 1)", "erase(0)"), "3 5x0 8x-1 6x-1 4x-1");
    }

    private static void digestWords() {
        Scene scene = Scene.with(3, "ca").text(0, " b ").does("tell(1, 0)", "join(2, 1, 0)", "turn(3, 0, 1)",
                "drop(4, 2, 40)", "part(5, 4, 0, 0)", "turn(6, 5, 0)", "drop(7, 6, 0)");
        digests(scene, "3 0 1 8 6 11 0 0 2 2 0 1 3 1 1 2 1 3 1 2 0 3 1 2 0 2 4 40 3 1 2 0 2 4 0 3 0 0 4 0 0"
                + " 6x-1 3 32 98 32 3x-1");
        digests(Scene.with(2, A40.substring(1) + "b"), "2 0 0 1 0 40 0 0 40 39x0 1 7x-1 6x-1 4x-1");
    }

    private static void digestRows() {
        Scene scene = Scene.bare().does("row(0, 0)", "row(1, 2)", "lay(1, 0, MIN)", "lay(1, 1, MAX)", "row(2, 1)",
                "tear(2)", "row(5, 1)", "lay(5, 0, -1)");
        digests(scene, "3 3 4x0 8x-1 0 2 -2147483648 2147483647 3x-1 1 -1 4x-1");
        digests(Scene.bare().does("row(0, 40)"), "3 1 4x0 8x-1 40 40x0 5x-1 4x-1");
    }

    private static void digestTexts() {
        Scene scene = Scene.bare().does("text(0, 0)", "text(1, 3)", "put(1, 0, 127)", "put(1, 1, 128)",
                "put(1, 2, 255)", "text(3, 1)");
        digests(scene, "3 0 3 3x0 8x-1 6x-1 0 3 127 -128 -1 -1 1 32");
        digests(Scene.bare().does("text(0, 60)"), "3 0 1 3x0 8x-1 6x-1 60 60x32 3x-1");
    }
}
