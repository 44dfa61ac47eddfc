/** Promises 28 to 33: inner words, arches, absent words. */
final class InnerTest {
    public static void main(String[] args) {
        innerPromise();
        rankPromise();
        byRankPromise();
        archesPromise();
        absentPromise();
        addedPromise();
        Check.end();
    }

    private static void inner(WithinWords x, int w, int n, long many) {
        Check.due("28: inner(" + w + ", " + n + ")", x.inner(w, n), 1);
        Check.due("28: many()", x.many(), many);
    }

    private static void innerPromise() {
        WithinWords x = Play.with(6, "abab", "", "abcdef".repeat(6) + "abcd");
        long[] counts = {1, 2, 4, 4, 1, 0};
        for (int n = 0; n < counts.length; n++) {
            inner(x, 0, n, counts[n]);
        }
        inner(x, 0, 40, 0);
        inner(x, 0, WithinWords.NONE, 12);
        inner(x, 1, 0, 1);
        inner(x, 1, 1, 0);
        inner(x, 1, WithinWords.NONE, 1);
        inner(x, 2, 6, 46656);
        inner(x, 2, 40, 1);
        inner(x, 2, 39, 40);
        long all = 0;
        for (int n = 0; n <= 40; n++) {
            x.inner(2, n);
            all += x.many();
        }
        inner(x, 2, WithinWords.NONE, all);
        Check.due("28: NOTHING", x.inner(7, 0), WithinWords.FINDING);
        Check.due("28: NOTHING", x.finding(), 1);
        for (int n : new int[] {41, -1, -8, -10, Integer.MIN_VALUE, Integer.MAX_VALUE}) {
            Check.due("28: inner(7, " + n + ")", x.inner(7, n), WithinWords.BAD);
        }
        Check.due("28: BAD", x.inner(8, 0), WithinWords.BAD);
    }

    private static void rank(WithinWords x, int w, int v, long many) {
        Check.due("29: rank(" + w + ", " + v + ")", x.rank(w, v), 1);
        Check.due("29: many()", x.many(), many);
    }

    private static void rankPromise() {
        WithinWords x = Play.with(3, "abcab", "aab", "cab", "", "ccc", "aca", "abcabb");
        rank(x, 0, 1, 0);
        rank(x, 0, 5, 4);
        rank(x, 0, 2, 9);
        rank(x, 0, 3, 0);
        rank(x, 0, 0, 0);
        rank(x, 3, 3, 0);
        Check.due("29: none", x.rank(0, 4), WithinWords.NONE);
        Check.due("29: longer", x.rank(0, 6), WithinWords.NONE);
        rank(x, 0, 2, 9);
        Check.due("29: none", x.rank(3, 2), WithinWords.NONE);
        Check.due("29: NONE tells nothing", x.many(), 9);
        Check.due("29: NOTHING", x.rank(0, 7), WithinWords.FINDING);
        Check.due("29: NOTHING", x.rank(7, 0), WithinWords.FINDING);
        Check.due("29: NOTHING", x.findings(1), 2);
        Check.due("29: BAD", x.rank(8, 7), WithinWords.BAD);
        Check.due("29: BAD", x.rank(7, 8), WithinWords.BAD);
    }

    private static void byRankPromise() {
        WithinWords x = Play.with(3, "abcab", "");
        String[] threes = {"aab", "aba", "abb", "abc", "aca", "acb", "bab", "bca", "bcb", "cab"};
        // By hand: of abcab the unlike words of three letters.
        java.util.TreeSet<String> due = new java.util.TreeSet<>(java.util.List.of("abc", "aba", "abb", "aca", "acb",
                "aab", "bca", "bcb", "bab", "cab"));
        Check.due("30: by hand", due.toString(), java.util.List.of(threes).toString());
        for (int rank = 0; rank < threes.length; rank++) {
            Check.due("30: byRank", x.byRank(0, 3, rank, 0), 3);
            Check.due("30: rank " + rank, Play.readLetters(x, 0), threes[rank]);
        }
        Check.due("30: no such", x.byRank(0, 3, 10, 0), WithinWords.NONE);
        Check.due("30: no such", x.byRank(0, 3, Integer.MAX_VALUE, 0), WithinWords.NONE);
        Check.due("30: no such length", x.byRank(0, 6, 0, 0), WithinWords.NONE);
        Check.due("30: no such length", x.byRank(0, 40, 0, 0), WithinWords.NONE);
        Check.due("30: NONE leaves the row", Play.readLetters(x, 0), "cab");
        Check.due("30: of none", x.byRank(1, 0, 0, 0), 0);
        Check.due("30: of none", Play.readLetters(x, 0), "");
        Check.due("30: of none but one", x.byRank(1, 0, 1, 0), WithinWords.NONE);
        Check.due("30: whole", x.byRank(0, 5, 0, 3), 5);
        Check.due("30: whole", Play.readLetters(x, 3), "abcab");
        Check.due("30: NOTHING", x.byRank(7, 0, 0, 0), WithinWords.FINDING);
        Check.due("30: NOTHING", x.finding(), 1);
        Check.due("30: BAD", x.byRank(7, 0, -1, 0), WithinWords.BAD);
        Check.due("30: BAD", x.byRank(7, -1, 0, 0), WithinWords.BAD);
        Check.due("30: BAD", x.byRank(7, -9, 0, 0), WithinWords.BAD);
        Check.due("30: BAD", x.byRank(7, 41, 0, 0), WithinWords.BAD);
        Check.due("30: BAD", x.byRank(7, 0, 0, 6), WithinWords.BAD);
        Check.due("30: BAD", x.byRank(8, 0, 0, 0), WithinWords.BAD);
    }

    private static void arches(WithinWords x, int w, int n, int rest) {
        Check.due("31: arches(" + w + ")", x.arches(w), n);
        Check.due("31: REST", x.asked(), rest);
    }

    private static void archesPromise() {
        WithinWords x = Play.with(3, "abaacbbcab", "", "abab", "a".repeat(40));
        arches(x, 0, 2, 1);
        arches(x, 1, 0, 0);
        arches(x, 2, 0, 4);
        arches(x, 3, 0, 40);
        x.letters(6);
        arches(x, 0, 0, 10);
        x.erase(0);
        x.letters(2);
        arches(x, 2, 2, 0);
        x.erase(2);
        x.letters(1);
        arches(x, 3, 40, 0);
        arches(x, 1, 0, 0);
        x.at(Play.SCRATCH, 0);
        int told = x.asked();
        Check.due("31: NOTHING", x.arches(7), WithinWords.FINDING);
        Check.due("31: NOTHING", x.finding(), 1);
        Check.due("31: BAD", x.arches(8), WithinWords.BAD);
        Check.due("31: BAD", x.arches(-1), WithinWords.BAD);
        Check.due("31: refused tells nothing", x.asked(), told);
    }

    private static void absent(WithinWords x, int w, int n, String first, long many) {
        Check.due("32: absent(" + w + ")", x.absent(w, 2), n);
        Check.due("32: many()", x.many(), many);
        Check.due("32: the FIRST", Play.readLetters(x, 2), first);
    }

    private static void absentPromise() {
        WithinWords x = Play.with(3, "abcabc", "", "abab", "cba", "a".repeat(40));
        absent(x, 0, 3, "aaa", 10);
        absent(x, 1, 1, "a", 3);
        absent(x, 2, 1, "c", 1);
        absent(x, 3, 2, "aa", 6);
        absent(x, 4, 1, "b", 2);
        x.letters(6);
        absent(x, 0, 1, "d", 3);
        for (int w = 0; w < 4; w++) {
            x.erase(w);
        }
        x.letters(1);
        absent(x, 4, 41, "a".repeat(40), 1);
        Check.due("32: NOTHING", x.absent(7, 0), WithinWords.FINDING);
        Check.due("32: NOTHING", x.finding(), 1);
        Check.due("32: BAD", x.absent(7, 6), WithinWords.BAD);
        Check.due("32: BAD", x.absent(7, -1), WithinWords.BAD);
        Check.due("32: BAD", x.absent(8, 0), WithinWords.BAD);
    }

    private static void addedPromise() {
        WithinWords x = Play.with(3, "abcaba", "", "aaaa");
        int[] due = {0, 0, 1, 4, 7};
        for (int d = 0; d < due.length; d++) {
            Check.due("33: added(0, " + d + ")", x.added(0, d), due[d]);
        }
        Check.due("33: added(0, 40)", x.added(0, 40), 1 + 38 * 3);
        Check.due("33: added(1, 0)", x.added(1, 0), 0);
        Check.due("33: added(1, 40)", x.added(1, 40), 120);
        Check.due("33: added(2, 1)", x.added(2, 1), 2);
        Check.due("33: NOTHING", x.added(7, 1), WithinWords.FINDING);
        Check.due("33: NOTHING", x.finding(), 1);
        Check.due("33: BAD", x.added(7, 41), WithinWords.BAD);
        Check.due("33: BAD", x.added(7, -1), WithinWords.BAD);
        Check.due("33: BAD", x.added(8, 1), WithinWords.BAD);
    }
}
