/** Promises 39 to 41: twins, odds. */
final class ToldBackTest {
    public static void main(String[] args) {
        twinsPromise();
        twinsSpent();
        oddsPromise();
        byChancePromise();
        Check.end();
    }

    private static void twins(WithinWords x, int w, int d, int n, String first) {
        Check.due("39: twins(" + w + ", " + d + ")", x.twins(w, d, 2), n);
        Check.due("39: the FIRST", Play.readLetters(x, 2), first);
    }

    private static void twinsPromise() {
        WithinWords x = Play.with(2, "baab", "abba", "", "b", "ba", "ab".repeat(6) + "a");
        twins(x, 0, 1, 6, "aabb");
        twins(x, 0, 2, 2, "abba");
        twins(x, 1, 2, 2, "abba");
        twins(x, 0, 3, 1, "baab");
        twins(x, 2, 1, 1, "");
        twins(x, 2, 3, 1, "");
        twins(x, 3, 1, 1, "b");
        twins(x, 3, 2, 2, "a");
        twins(x, 3, 3, 2, "a");
        twins(x, 4, 2, 1, "ba");
        twins(x, 4, 3, 4, "aa");
        twins(x, 5, 1, 1716, "a".repeat(7) + "b".repeat(6));
        twins(x, 0, 1, 6, "aabb");
        Check.due("39: NOTHING", x.twins(7, 1, 0), WithinWords.FINDING);
        Check.due("39: NOTHING", x.finding(), 1);
        Check.due("39: BAD", x.twins(7, 0, 0), WithinWords.BAD);
        Check.due("39: BAD", x.twins(7, 4, 0), WithinWords.BAD);
        Check.due("39: BAD", x.twins(7, 1, 6), WithinWords.BAD);
        Check.due("39: BAD", x.twins(8, 1, 0), WithinWords.BAD);
    }

    /** How long words may be among k letters: k to that power is 10000 at most. */
    private static void twinsSpent() {
        int[] longest = {40, 13, 8, 6, 5, 5};
        for (int k = 1; k <= 6; k++) {
            for (int n = 0; n <= 40; n++) {
                WithinWords x = Play.with(k, "a".repeat(n));
                int want = n <= longest[k - 1] ? 1 : WithinWords.SPENT;
                Check.due("39: " + k + " letters, size " + n, x.twins(0, 1, 0), want);
                Check.due("39: NOTHING ahead of SPENT", x.twins(1, 1, 0), WithinWords.FINDING);
            }
        }
        WithinWords x = Play.with(1, "a".repeat(40));
        twins(x, 0, 3, 1, "a".repeat(40));
    }

    private static void fraction(WithinWords x, String call, long got, long upper, long lower) {
        Check.due(call, got, 1);
        Check.due(call + " upper()", x.upper(), upper);
        Check.due(call + " lower()", x.lower(), lower);
    }

    private static void oddsPromise() {
        WithinWords x = Play.with(2, "abab", "ab", "bb", "", "bbb", "a".repeat(40), "a".repeat(20) + "b");
        fraction(x, "40: odds(0, 1)", x.odds(0, 1), 1, 2);
        fraction(x, "40: odds(0, 2)", x.odds(0, 2), 1, 6);
        fraction(x, "40: odds(0, 3)", x.odds(0, 3), 1, 1);
        fraction(x, "40: odds(3, 3)", x.odds(3, 3), 1, 1);
        fraction(x, "40: odds(0, 4)", x.odds(0, 4), 0, 1);
        fraction(x, "40: odds(0, 0)", x.odds(0, 0), 1, 1);
        fraction(x, "40: odds(5, 5)", x.odds(5, 5), 1, 1);
        fraction(x, "40: odds(5, 6)", x.odds(5, 6), 0, 1);
        fraction(x, "40: odds(6, 1)", x.odds(6, 1), 2, 21);
        Check.due("40: longer", x.odds(1, 0), WithinWords.FINDING);
        Check.due("40: NOUGHT", x.finding(), 4);
        Check.due("40: refused tells nothing", x.lower(), 21);
        Check.due("40: NOTHING", x.odds(0, 7), WithinWords.FINDING);
        Check.due("40: NOTHING", x.odds(7, 0), WithinWords.FINDING);
        Check.due("40: NOTHING", x.findings(1), 2);
        Check.due("40: BAD", x.odds(8, 7), WithinWords.BAD);
        Check.due("40: BAD", x.odds(7, 8), WithinWords.BAD);
    }

    private static void byChancePromise() {
        WithinWords x = Play.with(6, "ab", "", "abcdef", "f".repeat(20), "a".repeat(21));
        fraction(x, "41: byChance(0, 1)", x.byChance(0, 1), 0, 1);
        fraction(x, "41: byChance(0, 2)", x.byChance(0, 2), 1, 36);
        fraction(x, "41: byChance(0, 3)", x.byChance(0, 3), 2, 27);
        fraction(x, "41: byChance(1, 0)", x.byChance(1, 0), 1, 1);
        fraction(x, "41: byChance(1, 20)", x.byChance(1, 20), 1, 1);
        fraction(x, "41: byChance(3, 20)", x.byChance(3, 20), 1, 3656158440062976L);
        fraction(x, "41: byChance(4, 20)", x.byChance(4, 20), 0, 1);
        fraction(x, "41: byChance(2, 6)", x.byChance(2, 6), 1, 46656);
        Check.due("41: BAD", x.byChance(7, 21), WithinWords.BAD);
        Check.due("41: BAD", x.byChance(7, -1), WithinWords.BAD);
        Check.due("41: BAD", x.byChance(8, 1), WithinWords.BAD);
        Check.due("41: NOTHING", x.byChance(7, 20), WithinWords.FINDING);
        Check.due("41: NOTHING", x.finding(), 1);
        Check.due("41: refused tells nothing", x.lower(), 46656);
        WithinWords y = Play.with(1, "aaa");
        fraction(y, "41: one letter", y.byChance(0, 3), 1, 1);
        fraction(y, "41: one letter", y.byChance(0, 2), 0, 1);
        fraction(y, "41: one letter", y.byChance(0, 20), 1, 1);
    }
}
