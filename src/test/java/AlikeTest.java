/** Promises 34, 35 and 38: two words beside one another. */
final class AlikeTest {
    public static void main(String[] args) {
        alikePromise();
        partingPromise();
        bothPromise();
        Check.end();
    }

    private static void alikePromise() {
        WithinWords x = Play.with(2, "abab", "abba", "abab", "", "a".repeat(40), "a".repeat(39));
        int[] due = {1, 1, 1, 0, 0};
        for (int d = 0; d < due.length; d++) {
            Check.due("34: alike(0, 1, " + d + ")", x.alike(0, 1, d), due[d]);
            Check.due("34: alike(1, 0, " + d + ")", x.alike(1, 0, d), due[d]);
        }
        Check.due("34: alike(0, 1, 40)", x.alike(0, 1, 40), 0);
        Check.due("34: alike(0, 2, 40)", x.alike(0, 2, 40), 1);
        Check.due("34: alike(0, 0, 40)", x.alike(0, 0, 40), 1);
        Check.due("34: alike(0, 3, 0)", x.alike(0, 3, 0), 1);
        Check.due("34: alike(0, 3, 1)", x.alike(0, 3, 1), 0);
        Check.due("34: alike(4, 5, 39)", x.alike(4, 5, 39), 1);
        Check.due("34: alike(4, 5, 40)", x.alike(4, 5, 40), 0);
        Check.due("34: NOTHING", x.alike(0, 7, 1), WithinWords.FINDING);
        Check.due("34: NOTHING", x.alike(7, 0, 1), WithinWords.FINDING);
        Check.due("34: NOTHING", x.findings(1), 2);
        Check.due("34: BAD", x.alike(7, 0, 41), WithinWords.BAD);
        Check.due("34: BAD", x.alike(7, 0, -1), WithinWords.BAD);
        Check.due("34: BAD", x.alike(8, 7, 1), WithinWords.BAD);
        Check.due("34: BAD", x.alike(7, 8, 1), WithinWords.BAD);
    }

    private static void parting(WithinWords x, int a, int b, String want) {
        Check.due("35: parting(" + a + ", " + b + ")", x.parting(a, b, 3), want.length());
        Check.due("35: PARTING", Play.readLetters(x, 3), want);
    }

    private static void partingPromise() {
        WithinWords x = Play.with(3, "abab", "abba", "abab", "", "a".repeat(40), "a".repeat(39), "cab", "bca");
        parting(x, 0, 1, "aab");
        parting(x, 1, 0, "aab");
        parting(x, 0, 3, "a");
        parting(x, 3, 6, "a");
        parting(x, 4, 5, "a".repeat(40));
        parting(x, 6, 7, "ab");
        parting(x, 4, 6, "b");
        Check.due("35: the same", x.parting(0, 2, 3), WithinWords.NONE);
        Check.due("35: itself", x.parting(3, 3, 3), WithinWords.NONE);
        Check.due("35: NONE leaves the row", Play.readLetters(x, 3), "b");
        x.erase(7);
        Check.due("35: NOTHING", x.parting(0, 7, 3), WithinWords.FINDING);
        Check.due("35: NOTHING", x.parting(7, 7, 3), WithinWords.FINDING);
        Check.due("35: NOTHING", x.finding(), 1);
        Check.due("35: BAD", x.parting(7, 0, 6), WithinWords.BAD);
        Check.due("35: BAD", x.parting(8, 7, 0), WithinWords.BAD);
        Check.due("35: BAD", x.parting(7, -1, 0), WithinWords.BAD);
    }

    private static void both(WithinWords x, int a, int b, long many) {
        Check.due("38: both(" + a + ", " + b + ")", x.both(a, b), 1);
        Check.due("38: many()", x.many(), many);
    }

    private static void bothPromise() {
        WithinWords x = Play.with(3, "abab", "abba", "", "cc", "abc".repeat(13) + "a");
        both(x, 0, 1, 9);
        both(x, 1, 0, 9);
        both(x, 0, 0, 12);
        both(x, 0, 2, 1);
        both(x, 2, 2, 1);
        both(x, 0, 3, 1);
        both(x, 0, 4, 12);
        x.inner(4, WithinWords.NONE);
        both(x, 4, 4, x.many());
        Check.due("38: NOTHING", x.both(0, 7), WithinWords.FINDING);
        Check.due("38: NOTHING", x.both(7, 0), WithinWords.FINDING);
        Check.due("38: NOTHING", x.findings(1), 2);
        Check.due("38: BAD", x.both(7, 8), WithinWords.BAD);
        Check.due("38: BAD", x.both(-1, 7), WithinWords.BAD);
    }
}
