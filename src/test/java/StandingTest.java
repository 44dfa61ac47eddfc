/** Promises 23 to 27: by which ways a word stands in another. */
final class StandingTest {
    public static void main(String[] args) {
        waysPromise();
        wayPromise();
        placesPromise();
        judgePromise();
        barPromise();
        Check.end();
    }

    private static void ways(WithinWords x, int w, int v, long many) {
        Check.due("23: ways(" + w + ", " + v + ")", x.ways(w, v), many > 0 ? 1 : 0);
        Check.due("23: many()", x.many(), many);
    }

    private static void waysPromise() {
        WithinWords x = Play.with(2, "ababab", "ab", "", "ba", "bb", "a".repeat(40), "a".repeat(20), "b");
        ways(x, 0, 1, 6);
        ways(x, 0, 3, 3);
        ways(x, 0, 0, 1);
        ways(x, 0, 2, 1);
        ways(x, 2, 2, 1);
        ways(x, 2, 1, 0);
        ways(x, 1, 3, 0);
        ways(x, 1, 0, 0);
        ways(x, 5, 6, 137846528820L);
        ways(x, 5, 7, 0);
        x.erase(4);
        Check.due("23: ways(0, 4)", x.ways(0, 4), WithinWords.FINDING);
        Check.due("23: ways(4, 0)", x.ways(4, 0), WithinWords.FINDING);
        Check.due("23: NOTHING", x.findings(1), 2);
        Check.due("23: ways(8, 4)", x.ways(8, 4), WithinWords.BAD);
        Check.due("23: ways(4, -1)", x.ways(4, -1), WithinWords.BAD);
    }

    private static void wayPromise() {
        WithinWords x = Play.with(3, "abcabcab", "acb", "", "cc", "ccc");
        Check.due("24: first", x.way(0, 1, 0, false), 3);
        Check.due("24: first", Play.readRow(x, 0), "0,2,4");
        Check.due("24: last", x.way(0, 1, 0, true), 3);
        Check.due("24: last", Play.readRow(x, 0), "3,5,7");
        Check.due("24: the only one", x.way(0, 3, 0, true), 2);
        Check.due("24: the only one", Play.readRow(x, 0), "2,5");
        Check.due("24: none", x.way(0, 4, 0, true), WithinWords.NONE);
        Check.due("24: NONE leaves the row", Play.readRow(x, 0), "2,5");
        Check.due("24: of none", x.way(0, 2, 0, false), 0);
        Check.due("24: of none", Play.readRow(x, 0), "");
        Check.due("24: the row need not be there", x.way(0, 1, 4, false), 3);
        Check.due("24: NOTHING", x.way(0, 7, 0, false), WithinWords.FINDING);
        Check.due("24: NOTHING", x.way(7, 0, 0, false), WithinWords.FINDING);
        Check.due("24: NOTHING", x.finding(), 1);
        Check.due("24: BAD", x.way(7, 0, 6, false), WithinWords.BAD);
        Check.due("24: BAD", x.way(8, 0, 0, false), WithinWords.BAD);
        Check.due("24: BAD", x.way(7, 8, 0, false), WithinWords.BAD);
    }

    private static void places(WithinWords x, int v, boolean all, int... want) {
        long bits = 0;
        for (int i : want) {
            bits |= 1L << i;
        }
        Check.due("25: places(0, " + v + ", " + all + ")", x.places(0, v, all), want.length);
        Check.due("25: many()", x.many(), bits);
    }

    private static void placesPromise() {
        WithinWords x = Play.with(3, "abcbaac", "bb", "", "abc", "aba", "ccc", "cc");
        places(x, 1, false, 1, 3);
        places(x, 1, true, 1, 3);
        places(x, 2, false);
        places(x, 2, true);
        places(x, 3, false, 0, 1, 2, 3, 6);
        places(x, 3, true, 0);
        places(x, 4, false, 0, 1, 3, 4, 5);
        places(x, 4, true, 0);
        places(x, 0, true, 0, 1, 2, 3, 4, 5, 6);
        places(x, 6, true, 2, 6);
        Check.due("25: none", x.places(0, 5, true), WithinWords.NONE);
        Check.due("25: none", x.places(0, 5, false), WithinWords.NONE);
        Check.due("25: NONE tells nothing", x.many(), 1 << 2 | 1 << 6);
        Check.due("25: NOTHING", x.places(0, 7, true), WithinWords.FINDING);
        Check.due("25: NOTHING", x.finding(), 1);
        Check.due("25: BAD", x.places(7, 8, true), WithinWords.BAD);
        Check.due("25: BAD", x.places(-1, 7, true), WithinWords.BAD);
        WithinWords y = Play.with(1, "a".repeat(40), "a");
        Check.due("25: 40 places", y.places(0, 1, false), 40);
        Check.due("25: 40 bits", y.many(), (1L << 40) - 1);
    }

    private static void judgePromise() {
        WithinWords x = Play.with(3, "abcab", "ab", "");
        int[][] rows = {{0, 1}, {0, 4}, {3, 4}, {1, 0}, {3, 1}, {0, 0}, {0}, {0, 1, 2}, {}, {0, 2}, {-1, 1}, {0, 5},
            {0, Integer.MAX_VALUE}, {Integer.MIN_VALUE, 1}};
        int[] judged = {1, 1, 1, 0, 0, 0, 0, 0, 0, 0, 0, 0, 0, 0};
        for (int i = 0; i < rows.length; i++) {
            Play.row(x, 1, rows[i]);
            Check.due("26: judge of " + Play.readRow(x, 1), x.judge(0, 1, 1), judged[i]);
        }
        Play.row(x, 1);
        Check.due("26: of none", x.judge(0, 2, 1), 1);
        Play.row(x, 1, 0);
        Check.due("26: of none", x.judge(0, 2, 1), 0);
        int before = x.findings(1);
        Check.due("26: no ROW", x.judge(0, 1, 2), WithinWords.FINDING);
        Check.due("26: no WORD", x.judge(0, 7, 1), WithinWords.FINDING);
        Check.due("26: no WORD", x.judge(7, 1, 1), WithinWords.FINDING);
        Check.due("26: NOTHING once each", x.findings(1), before + 3);
        Check.due("26: all missing", x.judge(7, 7, 3), WithinWords.FINDING);
        Check.due("26: one FINDING", x.findings(1), before + 4);
        Check.due("26: BAD", x.judge(7, 7, 6), WithinWords.BAD);
        Check.due("26: BAD", x.judge(8, 7, 3), WithinWords.BAD);
        Check.due("26: BAD", x.judge(7, -1, 3), WithinWords.BAD);
    }

    private static void barPromise() {
        WithinWords x = Play.with(3, "aabbab", "ab", "aab", "c", "", "a".repeat(40), "aaa");
        Check.due("27: bar(0, 1)", x.bar(0, 1), 3);
        Check.due("27: bar(0, 2)", x.bar(0, 2), 2);
        Check.due("27: bar(0, 3)", x.bar(0, 3), 0);
        Check.due("27: bar(0, 0)", x.bar(0, 0), 1);
        Check.due("27: bar(4, 1)", x.bar(4, 1), 0);
        Check.due("27: bar(5, 6)", x.bar(5, 6), 38);
        Check.due("27: bar(5, 5)", x.bar(5, 5), 1);
        Check.due("27: STATE", x.bar(0, 4), WithinWords.STATE);
        Check.due("27: STATE", x.bar(4, 4), WithinWords.STATE);
        Check.due("27: no finding", x.finding(), 0);
        Check.due("27: NOTHING ahead of STATE", x.bar(7, 4), WithinWords.FINDING);
        Check.due("27: NOTHING", x.bar(0, 7), WithinWords.FINDING);
        Check.due("27: BAD", x.bar(8, 4), WithinWords.BAD);
        Check.due("27: BAD", x.bar(7, 8), WithinWords.BAD);
    }
}
