/** Promises 36 and 37: the longest word that stands in several, the shortest that holds several. */
final class SeveralTest {
    public static void main(String[] args) {
        commonPromise();
        coverPromise();
        longestCover();
        refusals();
        limits();
        farBeyondLimits();
        Check.end();
    }

    private static void common(WithinWords x, int set, String want) {
        Check.due("36: common(" + set + ")", x.common(set, 1), want.length());
        Check.due("36: the FIRST of the longest", Play.readLetters(x, 1), want);
    }

    private static void cover(WithinWords x, int set, String want) {
        Check.due("37: cover(" + set + ")", x.cover(set, 1), want.length());
        Check.due("37: the FIRST of the shortest", Play.readLetters(x, 1),
                want.substring(0, Math.min(40, want.length())));
    }

    private static void commonPromise() {
        WithinWords x = Play.with(3, "abcab", "bacba", "cab", "", "bb", "ab");
        common(x, 1, "abcab");
        common(x, 8, "");
        common(x, 3, "aba");
        common(x, 5, "cab");
        common(x, 7, "ab");
        common(x, 9, "");
        common(x, 16 + 1, "bb");
        common(x, 32 + 1 + 2 + 4, "ab");
        common(x, 16 + 1 + 2 + 4, "b");
    }

    private static void coverPromise() {
        WithinWords x = Play.with(3, "ab", "ba", "c", "", "a".repeat(40), "b".repeat(40), "acb");
        cover(x, 1, "ab");
        cover(x, 8, "");
        cover(x, 3, "aba");
        cover(x, 7, "abac");
        cover(x, 15, "abac");
        cover(x, 64 + 3, "acba");
        cover(x, 16 + 32, "a".repeat(40) + "b".repeat(40));
        cover(x, 32 + 4, "b".repeat(40) + "c");
    }

    private static void longestCover() {
        WithinWords x = Play.with(3, "a".repeat(40), "b".repeat(40), "c".repeat(10));
        cover(x, 7, "a".repeat(40) + "b".repeat(40) + "c".repeat(10));
        WithinWords y = Play.with(3, "cb".repeat(20), "a".repeat(40), "a".repeat(10));
        cover(y, 7, "a".repeat(40) + "cb".repeat(20));
    }

    private static void refusals() {
        WithinWords x = Play.with(3, "ab", "ba");
        int[] bad = {0, -1, 256, 257, Integer.MIN_VALUE, Integer.MAX_VALUE, 31, 255};
        for (int set : bad) {
            Check.due("36: common(" + set + ", 0)", x.common(set, 0), WithinWords.BAD);
            Check.due("37: cover(" + set + ", 0)", x.cover(set, 0), WithinWords.BAD);
        }
        Check.due("36: BAD", x.common(4, 6), WithinWords.BAD);
        Check.due("37: BAD", x.cover(4, -1), WithinWords.BAD);
        Check.due("36: no finding", x.finding(), 0);
        Check.due("36: NOTHING", x.common(5, 0), WithinWords.FINDING);
        Check.due("36: NOTHING once", x.findings(1), 1);
        Check.due("36: NOTHING", x.common(12, 0), WithinWords.FINDING);
        Check.due("36: NOTHING once", x.findings(1), 2);
        Check.due("37: NOTHING", x.cover(128, 0), WithinWords.FINDING);
        Check.due("37: NOTHING", x.finding(), 1);
        Check.due("36: no row came", x.at(0, 0), WithinWords.FINDING);
    }

    /** Lays words of these sizes from 0 on: their set. */
    private static int layWords(WithinWords x, int... sizes) {
        for (int w = 0; w < sizes.length; w++) {
            Play.word(x, w, "a".repeat(sizes[w]));
        }
        return (1 << sizes.length) - 1;
    }

    private static void limits() {
        WithinWords x = Play.with(3, "abc".repeat(8), "bca".repeat(6) + "b", "cab".repeat(13), "", "a");
        Check.due("36: 25 x 20 x 40 = 20000", x.common(7, 0) > 0 ? 1 : 0, 1);
        Check.due("37: 25 x 20 x 40 = 20000", x.cover(7, 0) > 0 ? 1 : 0, 1);
        Check.due("36: and one of none", x.common(15, 0), 0);
        Check.due("36: 25 x 20 x 40 x 2", x.common(7 + 16, 0), WithinWords.SPENT);
        Check.due("37: 25 x 20 x 40 x 2", x.cover(7 + 16, 0), WithinWords.SPENT);
        Check.due("36: 24 x 34 x 24 = 19584", x.common(layWords(x, 23, 33, 23), 0), 23);
        Check.due("37: 24 x 34 x 24 = 19584", x.cover(7, 0), 33);
        Check.due("36: 24 x 34 x 25 = 20400", x.common(layWords(x, 23, 33, 24), 0), WithinWords.SPENT);
        Check.due("36: 3 x 23 x 29 x 10 = 20010", x.common(layWords(x, 2, 22, 28, 9), 0), WithinWords.SPENT);
        Check.due("37: 3 x 23 x 29 x 10 = 20010", x.cover(15, 0), WithinWords.SPENT);
    }

    private static void farBeyondLimits() {
        WithinWords x = new WithinWords();
        Check.due("36: four of 40", x.common(layWords(x, 40, 40, 40, 40), 0), WithinWords.SPENT);
        Check.due("37: four of 40", x.cover(15, 0), WithinWords.SPENT);
        Check.due("36: two of 40", x.common(3, 0), 40);
        Check.due("37: two of 40", x.cover(3, 0), 40);
        x.erase(3);
        Check.due("36: NOTHING ahead of SPENT", x.common(15, 0), WithinWords.FINDING);
        Check.due("37: NOTHING ahead of SPENT", x.cover(15, 0), WithinWords.FINDING);
        Check.due("37: NOTHING", x.findings(1), 2);
    }
}
