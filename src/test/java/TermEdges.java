import java.util.List;
import java.util.Random;
import java.util.Set;
import java.util.TreeSet;

/** 'Terms' but for what it says of TEXTS (see SpellingEdges), sentence by sentence. */
final class TermEdges {
    private static final int BAD = WithinWords.BAD, FULL = WithinWords.FULL, STATE = WithinWords.STATE;
    private static final int SPENT = WithinWords.SPENT, FINDING = WithinWords.FINDING;
    private static final String A40 = "a".repeat(40);

    /**
     * All calls that can be refused. What each number may be: r a ROW, t a TEXT, w a WORD, k LETTERS,
     * h how, d a depth or length, e such a one of a TWIN, m LETTERS by chance, f a FINDING, c what is
     * counted, g a KIND but 0, s a set, o a RANK, x a row's size, y a text's size; . anything, b true or false.
     */
    static final String[] SHAPES = {"row r x", "lay r . .", "at r .", "tear r", "copy r . r . .", "mean r",
        "text t y", "put t . .", "letters k", "word w r", "fault t", "tell w t", "join w w w", "part w w . .",
        "turn w w h", "drop w w d", "erase w", "size w", "letter w .", "kind w", "mark w g", "ways w w",
        "way w w r b", "places w w b", "judge w w r", "bar w w", "inner w d", "rank w w", "byRank w d o r",
        "arches w", "absent w r", "added w d", "alike w w d", "parting w w r", "common s r", "cover s r", "both w w",
        "twins w e r", "odds w w", "byChance w m", "count c", "findings f"};
    private static final String KINDS = "rtwkhdemfcgsoxy";
    /** The least and the greatest of each; -1 as the least of sizes: what is below is no BAD. */
    private static final int[] LEAST = {0, 0, 0, 1, 0, 0, 1, 0, 1, 0, 1, 1, 0, -1, -1};
    private static final int[] MOST = {5, 3, 7, 6, 1, 40, 3, 20, 5, 5, 4, 255, Integer.MAX_VALUE, 40, 60};
    private static final String[] ANY = {"MIN", "-10", "-9", "-1", "0", "1", "2", "3", "4", "5", "6", "7", "8", "20",
        "40", "41", "60", "61", "255", "256", "MAX"};

    private final Random random = new Random(11);

    private TermEdges() {
    }

    static void all() {
        TermEdges edges = new TermEdges();
        term("An object is used for at most 512 calls after it has been made; what later calls answer is free.",
                TermEdges::calls512);
        term("Refused is, the first of these that fits, in this order: BAD -1 (a number that is none, or not as told),",
                edges::badFirst);
        term("FULL -2,", TermEdges::full);
        term("STATE -4 (not now),", TermEdges::state);
        term("SPENT -6 (more than told),", TermEdges::spent);
        term("FINDING -3 (finding() tells which), unless a call says so otherwise.", TermEdges::finding);
        term("NONE -9.", TermEdges::none);
        term("What is refused changes nothing but finding(), findings().", edges::refusedChangesNothing);
        term("FINDINGS: 1 NOTHING (a ROW, a TEXT, a WORD that is missing),", TermEdges::nothing);
        term("2 BEYOND (a place that there is not),", TermEdges::beyond);
        term("3 UNLIKE (a WORD of another KIND; a number of a ROW that is none),", TermEdges::unlike);
        term("4 NOUGHT (shared among none),", TermEdges::nought);
        term("5 SIZE (fewer than none; not as many as due).", TermEdges::size);
        term("Fractions are told by upper() and lower(), in lowest terms, the lower number above 0 (0 by 1).",
                TermEdges::fractions);
        term("Sets are told by bits.", TermEdges::sets);
        term("FIRST of some words is the first by letters (of unlike lengths the one that ends is ahead).",
                TermEdges::first);
        term("1 ROWS 0 .. 5 are rows of 0 to 40 ints, TEXTS 0 .. 3 rows of 0 to 60 bytes, or missing (at first).",
                TermEdges::rowsAndTexts);
        term("LETTERS are 0 .. k - 1 (k 1 .. 6; 3 at first).", TermEdges::letters);
        term("WORDS 0 .. 7 (missing at first) are rows of 0 to 40 LETTERS, of a KIND:", TermEdges::words);
        term("0 WORD (of a ROW), 1 TOLD (a WORD: by a TEXT), 2 MADE (a WORD: of others), 3 TURNED (a MADE),"
                + " 4 DROPPED (a MADE).", TermEdges::kinds);
        termsOfWords();
    }

    private static void termsOfWords() {
        term("2 A WORD v STANDS IN a WORD w by a WAY: rising places of w, one for each LETTER of v, alike.",
                TermEdges::way);
        term("(Of none: one WAY.)", TermEdges::wayOfNone);
        term("INNER words of w are all unlike words that STAND IN it;", TermEdges::inner);
        term("RANK of one: its number among the INNER ones of its length, FIRST 0.", TermEdges::rank);
        term("ARCHES of w: from its beginning the shortest piece that has all LETTERS, then from behind it again,"
                + " as often as can be;", TermEdges::arches);
        term("REST is what is behind the last.", TermEdges::rest);
        term("ABSENT are words that do not STAND IN it; the shortest are ARCHES and 1 long.", TermEdges::absent);
        term("ALIKE to a depth d are two WORDS, if the same words of at most d LETTERS STAND IN both.",
                TermEdges::alike);
        term("PARTING is the shortest word that STANDS IN just one of both, the FIRST.", TermEdges::parting);
        term("DROPPED to a depth: from the first place on: is the WORD without that LETTER still ALIKE to a depth"
                + " with what it was at first, the LETTER goes, and one looks at the next one, which stands there then;"
                + " else one goes on.", TermEdges::dropped);
        term("COMMON of several WORDS (1 to 4): the longest word that STANDS IN all;", TermEdges::common);
        term("COVER: the shortest in which all STAND; the FIRST of such each.", TermEdges::cover);
        term("SPENT, if the product of (sizes and 1) is above 20000.", TermEdges::severalSpent);
        term("TWINS of a WORD by a length d: words of its size of LETTERS, in which each word of d LETTERS STANDS in as"
                + " many WAYS as in it.", TermEdges::twins);
        term("SPENT, if k to the power of its size is above 10000.", TermEdges::twinsSpent);
    }

    private static void term(String words, Runnable test) {
        Sentence.of(Sentence.TERMS, words, test);
    }

    private static void calls512() {
        WithinWords x = new WithinWords();
        Check.due("row(0, 40)", x.row(0, 40), 40);
        for (int call = 2; call <= 512; call++) {
            Check.due(Sentence.label() + "call " + call, x.lay(0, call % 40, call), 1);
        }
        for (int r = 0; r < 512; r++) {
            Check.due(Sentence.label() + "a new object each", new WithinWords().digest(), new WithinWords().digest());
        }
    }

    private String anyFor(char kind) {
        if (kind == 'b') {
            return random.nextBoolean() ? "true" : "false";
        }
        return ANY[random.nextInt(ANY.length)];
    }

    private String fill(String shape, int at, String value) {
        String[] parts = shape.split(" ");
        StringBuilder call = new StringBuilder(parts[0]).append('(');
        for (int i = 1; i < parts.length; i++) {
            call.append(i == 1 ? "" : ", ").append(i == at ? value : anyFor(parts[i].charAt(0)));
        }
        return call.append(')').toString();
    }

    /** A number that is none is BAD, whatever the others are and whatever is missing. */
    private void badFirst() {
        Check.due("BAD", BAD, -1);
        for (String shape : SHAPES) {
            String[] parts = shape.split(" ");
            for (int i = 1; i < parts.length; i++) {
                int kind = KINDS.indexOf(parts[i].charAt(0));
                if (kind >= 0) {
                    badAt(shape, i, kind);
                }
            }
        }
    }

    private void badAt(String shape, int at, int kind) {
        boolean hasMost = MOST[kind] < Integer.MAX_VALUE;
        boolean hasLeast = LEAST[kind] >= 0;
        for (int round = 0; round < 6; round++) {
            for (Scene scene : new Scene[] {Scene.bare(), Scene.holed(), Scene.full()}) {
                if (hasMost) {
                    scene.refuses(fill(shape, at, String.valueOf(MOST[kind] + 1)), BAD);
                    scene.refuses(fill(shape, at, "MAX"), BAD);
                }
                if (hasLeast) {
                    scene.refuses(fill(shape, at, String.valueOf(LEAST[kind] - 1)), BAD);
                    scene.refuses(fill(shape, at, "MIN"), BAD);
                }
            }
        }
    }

    private static void full() {
        Check.due("FULL", FULL, -2);
        Scene.with(1, A40, "a").refuses("join(2, 0, 1)", FULL);
        Scene.full().text(0, "a".repeat(41)).refuses("tell(0, 0)", FULL);
        Scene.with(1, A40, "a").refuses("join(8, 0, 1)", BAD);
        Scene.full().text(0, "a".repeat(41)).refuses("tell(8, 0)", BAD);
    }

    private static void state() {
        Check.due("STATE", STATE, -4);
        Scene.full().refuses("letters(2)", STATE);
        Scene.full().refuses("tell(0, 3)", STATE);
        Scene.full().refuses("bar(0, 5)", STATE);
        Scene.full().refuses("letters(0)", BAD);
        Scene.full().refuses("tell(-1, 3)", BAD);
        Scene.full().refuses("bar(8, 5)", BAD);
    }

    private static void spent() {
        Check.due("SPENT", SPENT, -6);
        Scene.with(1, A40, A40, A40).refuses("common(7, 0)", SPENT);
        Scene.with(1, A40, A40, A40).refuses("cover(7, 0)", SPENT);
        Scene.with(2, A40).refuses("twins(0, 1, 0)", SPENT);
        Scene.with(1, A40, A40, A40).refuses("common(7, 6)", BAD);
        Scene.with(1, A40, A40, A40).refuses("cover(7, -1)", BAD);
        Scene.with(2, A40).refuses("twins(0, 1, 6)", BAD);
    }

    private static void finding() {
        Check.due("FINDING", FINDING, -3);
        for (String call : new String[] {"size(1)", "tell(0, 1)", "join(0, 0, 1)", "bar(0, 1)", "common(3, 0)",
            "cover(3, 0)", "twins(1, 1, 0)", "odds(0, 1)"}) {
            Scene.holed().finds(call, 1);
        }
        Scene.full().finds("odds(1, 0)", 4);
        Scene.holed().finds("copy(1, 9, 3, 9, -1)", 5);
        Scene.holed().finds("copy(1, 9, 3, 9, 1)", 1);
        Scene.full().finds("copy(1, 9, 3, 9, 1)", 2);
        Scene.holed().finds("part(0, 1, 9, -1)", 5);
        Scene.holed().finds("part(0, 1, 9, 1)", 1);
        Scene.full().finds("part(0, 1, 9, 1)", 2);
    }

    private static void none() {
        Check.due("NONE", WithinWords.NONE, -9);
        for (String call : new String[] {"fault(0)", "way(0, 6, 0, true)", "places(0, 6, true)", "rank(0, 6)",
            "byRank(0, 6, 0, 0)", "parting(0, 0, 0)"}) {
            Scene.full().hasNone(call);
        }
    }

    private static boolean isRefused(long answer) {
        return answer == BAD || answer == FULL || answer == STATE || answer == SPENT || answer == FINDING
                || answer == WithinWords.NONE;
    }

    /** Whatever a call is asked: is it refused (or NONE), it changes nothing, and a FINDING is told once. */
    private void refusedChangesNothing() {
        Scene[] scenes = {Scene.bare(), Scene.holed(), Scene.full(), spentScene()};
        for (String shape : SHAPES) {
            for (int round = 0; round < 60; round++) {
                String call = fill(shape, 0, "");
                Scene scene = scenes[round % scenes.length];
                WithinWords x = scene.make();
                long answer = Calls.answer(x, call);
                if (isRefused(answer)) {
                    scene.changesNothing(call, (int) answer, answer == FINDING ? x.finding() : 0);
                }
            }
        }
    }

    private static Scene spentScene() {
        Scene scene = SeveralEdges.ofSizes(40, 40, 40, 0).does("letters(2)", "ways(0, 3)", "odds(0, 3)");
        return scene.text(0, "(").row(0, 7);
    }

    private static void nothing() {
        Scene.bare().finds("at(0, 0)", 1);
        Scene.bare().finds("fault(0)", 1);
        Scene.bare().finds("size(0)", 1);
    }

    private static void beyond() {
        Scene.full().finds("at(0, 3)", 2);
        Scene.full().finds("put(0, 3, 97)", 2);
        Scene.full().finds("letter(0, 5)", 2);
        Scene.full().finds("copy(0, 0, 0, 1, 3)", 2);
        Scene.full().finds("part(0, 0, 1, 5)", 2);
    }

    private static void unlike() {
        Scene.full().finds("mark(0, 4)", 3);
        Scene.full().finds("word(0, 4)", 3);
    }

    private static void nought() {
        Scene.full().finds("mean(3)", 4);
        Scene.full().finds("odds(5, 0)", 4);
    }

    private static void size() {
        Scene.full().finds("row(0, -1)", 5);
        Scene.full().finds("text(0, -1)", 5);
        Scene.full().finds("copy(0, 0, 0, 0, -1)", 5);
        Scene.full().finds("part(0, 0, 0, -1)", 5);
    }

    private static void fractions() {
        Scene.bare().answers("upper()", 0, "lower()", 1);
        Scene.with(2, "abab", "ab", "b", "", "bb").answers("odds(0, 1)", 1, "upper()", 1, "lower()", 2,
                "odds(0, 2)", 1, "upper()", 1, "lower()", 2, "odds(0, 3)", 1, "upper()", 1, "lower()", 1,
                "odds(1, 4)", 1, "upper()", 0, "lower()", 1, "byChance(2, 2)", 1, "upper()", 3, "lower()", 4,
                "byChance(1, 3)", 1, "upper()", 1, "lower()", 2, "byChance(1, 0)", 1, "upper()", 0, "lower()", 1);
    }

    private static void sets() {
        for (int w = 0; w <= 7; w++) {
            Scene.bare().word(w, "ab").answers("common(" + (1 << w) + ", 0)", 2, "cover(" + (1 << w) + ", 0)", 2);
        }
        Scene.with(3, "abc", "bc", "cb", "c").answers("common(3, 0)", 2, "common(5, 0)", 1, "common(6, 0)", 1,
                "cover(6, 0)", 3, "cover(10, 0)", 2, "cover(9, 0)", 3, "common(15, 0)", 1);
        Scene.with(1, A40).answers("places(0, 0, true)", 40, "many()", (1L << 40) - 1);
        Scene.with(2, "abab", "bb").answers("places(0, 1, true)", 2, "many()", 0b1010);
    }

    private static void first() {
        Scene.with(3, "abcab", "cab", "").answers("byRank(0, 1, 0, 0)", 1, "LETTERS 0", "a", "parting(0, 1, 0)", 2,
                "LETTERS 0", "aa", "parting(1, 2, 0)", 1, "LETTERS 0", "a");
        Scene.with(3, "ab", "ba").answers("common(3, 0)", 1, "LETTERS 0", "a", "cover(3, 0)", 3, "LETTERS 0", "aba",
                "twins(1, 1, 0)", 2, "LETTERS 0", "ab", "absent(1, 0)", 1, "LETTERS 0", "c");
        Scene.with(6, "fe", "ef").answers("common(3, 0)", 1, "LETTERS 0", "e", "cover(3, 0)", 3, "LETTERS 0", "efe",
                "parting(0, 1, 0)", 2, "LETTERS 0", "ef", "twins(0, 1, 0)", 2, "LETTERS 0", "ef");
    }

    private static void rowsAndTexts() {
        Scene.bare().answers("count(1)", 0, "count(2)", 0, "row(0, 0)", 0, "row(5, 40)", 40, "row(6, 0)", -1,
                "row(-1, 0)", -1, "row(1, 41)", -1, "count(1)", 2, "text(0, 0)", 0, "text(3, 60)", 60,
                "text(4, 0)", -1, "text(-1, 0)", -1, "text(1, 61)", -1, "count(2)", 2);
    }

    private static void letters() {
        Scene.bare().answers("count(0)", 3, "letters(0)", -1, "letters(7)", -1, "letters(1)", 3, "letters(6)", 1);
        Scene.bare().row(0, 0, 1, 2).answers("word(0, 0)", 3, "letters(2)", -4, "letters(3)", 3);
    }

    private static void words() {
        Scene.bare().answers("count(3)", 0, "row(0, 0)", 0, "word(0, 0)", 0, "row(0, 40)", 40, "word(7, 0)", 40,
                "word(8, 0)", -1, "word(-1, 0)", -1, "count(3)", 2, "size(0)", 0, "size(7)", 40, "kind(0)", 0,
                "join(0, 7, 0)", 40, "join(0, 7, 0)", -2);
    }

    private static void kinds() {
        Scene.full().answers("kind(0)", 0, "kind(2)", 1, "kind(3)", 2, "kind(4)", 3, "kind(7)", 4,
                "part(0, 0, 0, 1)", 1, "kind(0)", 2);
        Scene.full().answers("mark(3, 2)", 1, "mark(4, 2)", 3, "mark(7, 2)", 0, "mark(0, 2)", -3, "mark(2, 2)", -3);
    }

    private static void way() {
        Scene.full().row(0, 0, 1).answers("judge(0, 1, 0)", 1, "lay(0, 0, 1)", 1, "judge(0, 1, 0)", 0,
                "lay(0, 0, 3)", 1, "judge(0, 1, 0)", 0, "lay(0, 1, 4)", 1, "judge(0, 1, 0)", 1, "lay(0, 1, 2)", 1,
                "judge(0, 1, 0)", 0);
        Scene.with(2, "abb", "bb", "bbb", "ba").answers("ways(0, 1)", 1, "many()", 1, "ways(0, 2)", 0, "ways(0, 3)", 0);
    }

    private static void wayOfNone() {
        Scene.full().answers("ways(0, 5)", 1, "many()", 1, "ways(5, 5)", 1, "many()", 1, "way(0, 5, 0, false)", 0,
                "judge(0, 5, 0)", 1, "places(0, 5, true)", 0, "rank(0, 5)", 1, "odds(0, 5)", 1, "upper()", 1,
                "lower()", 1);
    }

    private static void inner() {
        Scene.with(2, "aab", "").answers("inner(0, -9)", 1, "many()", 6, "inner(0, 0)", 1, "many()", 1,
                "inner(0, 1)", 1, "many()", 2, "inner(0, 2)", 1, "many()", 2, "inner(0, 3)", 1, "many()", 1,
                "inner(1, -9)", 1, "many()", 1);
    }

    private static void rank() {
        Scene.with(2, "aab", "aa", "ab", "b", "").answers("rank(0, 1)", 1, "many()", 0, "rank(0, 2)", 1, "many()", 1,
                "rank(0, 3)", 1, "many()", 1, "rank(0, 4)", 1, "many()", 0, "rank(0, 0)", 1, "many()", 0);
    }

    private static void arches() {
        Scene.with(3, "aabca", "aabc", "aab", "", "abcabc").answers("arches(0)", 1, "arches(1)", 1, "arches(2)", 0,
                "arches(3)", 0, "arches(4)", 2);
        Scene.with(3, "abccba", "abccb").answers("arches(0)", 2, "arches(1)", 1);
    }

    private static void rest() {
        Scene.with(3, "aabca", "aabc", "aab", "", "abccb").answers("arches(0)", 1, "asked()", 1, "arches(1)", 1,
                "asked()", 0, "arches(2)", 0, "asked()", 3, "arches(3)", 0, "asked()", 0, "arches(4)", 1, "asked()", 2);
    }

    private static void absent() {
        Scene.with(3, "aabca", "aab", "", "abccba").answers("absent(0, 0)", 2, "LETTERS 0", "bb", "absent(1, 0)", 1,
                "LETTERS 0", "c", "absent(2, 0)", 1, "LETTERS 0", "a", "absent(3, 0)", 3);
        Scene.with(1, A40).answers("arches(0)", 40, "absent(0, 0)", 41);
    }

    private static void alike() {
        Scene.with(2, "ab", "ba", "aab", "").answers("alike(0, 1, 1)", 1, "alike(0, 1, 2)", 0, "alike(0, 2, 1)", 1,
                "alike(0, 2, 2)", 0, "alike(0, 2, 3)", 0, "alike(0, 3, 0)", 1, "alike(0, 3, 1)", 0,
                "alike(0, 0, 40)", 1);
    }

    private static void parting() {
        Scene.with(2, "ab", "ba", "aab", "").answers("parting(0, 1, 0)", 2, "LETTERS 0", "ab", "parting(1, 0, 0)", 2,
                "LETTERS 0", "ab", "parting(0, 2, 0)", 2, "LETTERS 0", "aa", "parting(3, 2, 0)", 1, "LETTERS 0", "a",
                "parting(3, 3, 0)", -9);
    }

    /** To 1 aba could lose either end, but the first place is looked at first; aabb to 2 can lose none. */
    private static void dropped() {
        Scene.with(2, "aba", "baa", "aabb", "abab", "ababab", "").answers("drop(7, 0, 1)", 2, "WORD 7", "ba",
                "drop(7, 1, 1)", 2, "WORD 7", "ba", "drop(7, 2, 1)", 2, "WORD 7", "ab", "drop(7, 2, 2)", 4,
                "WORD 7", "aabb", "drop(7, 3, 2)", 4, "WORD 7", "abab", "drop(7, 4, 2)", 4, "WORD 7", "abab",
                "drop(7, 5, 2)", 0);
        Scene.with(1, "aaa").answers("drop(7, 0, 2)", 2, "WORD 7", "aa", "drop(7, 0, 3)", 3, "drop(7, 0, 0)", 0);
        Scene.with(1, "aaaa", "aa").answers("drop(7, 0, 1)", 1, "drop(7, 1, 2)", 2, "drop(7, 0, 3)", 3,
                "drop(7, 1, 2)", 2);
        droppedAsTold(2, 8);
        droppedAsTold(3, 5);
    }

    /** All words of this size, to each depth, as the sentence goes. */
    private static void droppedAsTold(int k, int size) {
        int all = (int) Math.pow(k, size);
        for (int number = 0; number < all; number++) {
            StringBuilder word = new StringBuilder();
            for (int i = 0, left = number; i < size; i++, left /= k) {
                word.append((char) ('a' + left % k));
            }
            WithinWords x = Play.with(k, word.toString());
            for (int d = 0; d <= 4; d++) {
                String due = dropByTerms(word.toString(), d);
                Check.due(Sentence.label() + word + " to " + d, x.drop(7, 0, d), due.length());
                Check.due(Sentence.label() + word + " to " + d, Play.read(x, 7), due);
            }
        }
    }

    private static String dropByTerms(String word, int d) {
        Set<String> atFirst = innerTo(word, d);
        StringBuilder left = new StringBuilder(word);
        int i = 0;
        while (i < left.length()) {
            if (innerTo(new StringBuilder(left).deleteCharAt(i).toString(), d).equals(atFirst)) {
                left.deleteCharAt(i);
            } else {
                i++;
            }
        }
        return left.toString();
    }

    private static Set<String> innerTo(String word, int d) {
        Set<String> inner = new TreeSet<>();
        inner.add("");
        for (char c : word.toCharArray()) {
            for (String begun : List.copyOf(inner)) {
                if (begun.length() < d) {
                    inner.add(begun + c);
                }
            }
        }
        return inner;
    }

    private static void common() {
        Scene.with(3, "abc", "bca", "cab", "bbc", "c").answers("common(1, 0)", 3, "LETTERS 0", "abc",
                "common(3, 0)", 2, "LETTERS 0", "bc", "common(7, 0)", 1, "LETTERS 0", "a", "common(15, 0)", 1,
                "LETTERS 0", "b", "common(30, 0)", 1, "LETTERS 0", "c", "common(31, 0)", -1);
    }

    private static void cover() {
        Scene.with(3, "abc", "bca", "cab", "bbc", "c").answers("cover(1, 0)", 3, "LETTERS 0", "abc", "cover(3, 0)", 4,
                "LETTERS 0", "abca", "cover(7, 0)", 5, "LETTERS 0", "abcab", "cover(30, 0)", 5, "LETTERS 0", "bbcab",
                "cover(31, 0)", -1);
    }

    private static void severalSpent() {
        SeveralEdges.ofSizes(24, 19, 39).answers("common(7, 0)", 19, "cover(7, 0)", 39);
        SeveralEdges.ofSizes(26, 38, 18).answers("common(7, 0)", SPENT, "cover(7, 0)", SPENT, "common(3, 0)", 26);
    }

    private static void twins() {
        Scene.with(2, "abba", "ab").answers("twins(0, 1, 0)", 6, "twins(0, 2, 0)", 2, "LETTERS 0", "abba",
                "twins(0, 3, 0)", 1, "twins(1, 3, 0)", 4, "LETTERS 0", "aa");
        Scene.with(2, "ab").does("letters(3)").answers("twins(0, 1, 0)", 2, "twins(0, 3, 0)", 9);
    }

    private static void twinsSpent() {
        int[] longest = {40, 13, 8, 6, 5, 5};
        for (int k = 1; k <= 6; k++) {
            int n = longest[k - 1];
            SeveralEdges.ofSizes(n).does("letters(" + k + ")").answers("twins(0, 1, 0)", 1);
            if (k > 1) {
                SeveralEdges.ofSizes(n + 1).does("letters(" + k + ")").refuses("twins(0, 1, 0)", SPENT);
            }
        }
    }
}
