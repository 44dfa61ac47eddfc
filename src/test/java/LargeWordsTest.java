import java.util.ArrayDeque;
import java.util.ArrayList;
import java.util.HashMap;
import java.util.HashSet;
import java.util.List;
import java.util.Map;
import java.util.Random;
import java.util.Set;

/** Words of up to 40 letters, where trying all is too dear: told once more by other ways of reckoning. */
final class LargeWordsTest {
    private final Random random = new Random(7);

    public static void main(String[] args) {
        LargeWordsTest test = new LargeWordsTest();
        for (int k = 1; k <= 6; k++) {
            for (int round = 0; round < 8; round++) {
                test.pairs(k);
                test.dropping(k);
                test.ranks(k);
                test.several(k);
            }
        }
        Check.end();
    }

    private String randomWord(int k, int n) {
        StringBuilder letters = new StringBuilder();
        for (int i = 0; i < n; i++) {
            letters.append((char) ('a' + random.nextInt(k)));
        }
        return letters.toString();
    }

    private static int indexBehind(String w, int from, char c) {
        return w.indexOf(c, from) + 1;
    }

    private static boolean standsIn(String w, String v) {
        int i = 0;
        for (char c : v.toCharArray()) {
            i = indexBehind(w, i, c);
            if (i == 0) {
                return false;
            }
        }
        return true;
    }

    /** Breadth first over pairs of places: the first of the shortest words that part both, or null. */
    private static String partingOf(String a, String b, int k) {
        Set<List<Integer>> seen = new HashSet<>();
        ArrayDeque<Object[]> queue = new ArrayDeque<>();
        queue.add(new Object[] {0, 0, ""});
        while (!queue.isEmpty()) {
            Object[] state = queue.remove();
            for (char c = 'a'; c < 'a' + k; c++) {
                int i = indexBehind(a, (Integer) state[0], c);
                int j = indexBehind(b, (Integer) state[1], c);
                String word = (String) state[2] + c;
                if (i == 0 != (j == 0)) {
                    return word;
                }
                if (i != 0 && seen.add(List.of(i, j))) {
                    queue.add(new Object[] {i, j, word});
                }
            }
        }
        return null;
    }

    private void pairs(int k) {
        String a = randomWord(k, 40);
        String b = random.nextBoolean() ? new StringBuilder(a).deleteCharAt(random.nextInt(40)).toString()
                : randomWord(k, 30 + random.nextInt(11));
        String v = randomWord(k, 1 + random.nextInt(8));
        WithinWords x = Play.with(k, a, b, v);
        String part = partingOf(a, b, k);
        if (part == null) {
            Check.due("35: the same", x.parting(0, 1, 0), WithinWords.NONE);
            Check.due("34: alike", x.alike(0, 1, 40), 1);
        } else {
            Check.due("35: parting of " + a + ", " + b, x.parting(0, 1, 0), part.length());
            Check.due("35: parting of " + a + ", " + b, Play.readLetters(x, 0), part);
            Check.due("34: alike less deep", x.alike(0, 1, part.length() - 1), 1);
            Check.due("34: alike so deep", x.alike(0, 1, part.length()), 0);
        }
        Check.due("38: both", x.both(0, 1), 1);
        Check.due("38: both of " + a + ", " + b, x.many(), countShared(a, b, 0, 0, k, new HashMap<>()));
        x.ways(0, 2);
        Check.due("23: ways of " + v + " in " + a, x.many(), countWays(a, v, 0, 0, new HashMap<>()));
        Check.due("27: bar of " + v + " in " + a, x.bar(0, 2), fewestToBar(a, v));
        places(x, a, v);
    }

    private static long countShared(String a, String b, int i, int j, int k, Map<List<Integer>, Long> kept) {
        Long known = kept.get(List.of(i, j));
        if (known != null) {
            return known;
        }
        long n = 1;
        for (char c = 'a'; c < 'a' + k; c++) {
            int p = indexBehind(a, i, c);
            int q = indexBehind(b, j, c);
            n += p == 0 || q == 0 ? 0 : countShared(a, b, p, q, k, kept);
        }
        kept.put(List.of(i, j), n);
        return n;
    }

    private static long countWays(String w, String v, int i, int j, Map<List<Integer>, Long> kept) {
        if (j == v.length()) {
            return 1;
        }
        if (i == w.length()) {
            return 0;
        }
        Long known = kept.get(List.of(i, j));
        if (known == null) {
            known = countWays(w, v, i + 1, j, kept)
                    + (w.charAt(i) == v.charAt(j) ? countWays(w, v, i + 1, j + 1, kept) : 0);
            kept.put(List.of(i, j), known);
        }
        return known;
    }

    /**
     * By another way of reckoning: as many letters bar v as the longest word over which a keeper of
     * w can hold on without it, so w less the most letters that may stay.
     */
    private static int fewestToBar(String w, String v) {
        return w.length() - mostKept(w, v, 0, 0, new HashMap<>());
    }

    private static int mostKept(String w, String v, int i, int j, Map<List<Integer>, Integer> kept) {
        if (i == w.length()) {
            return 0;
        }
        Integer known = kept.get(List.of(i, j));
        if (known == null) {
            boolean meets = w.charAt(i) == v.charAt(j);
            int without = mostKept(w, v, i + 1, j, kept);
            known = without;
            if (!meets) {
                known = without + 1;
            } else if (j + 1 < v.length()) {
                known = Math.max(without, 1 + mostKept(w, v, i + 1, j + 1, kept));
            }
            kept.put(List.of(i, j), known);
        }
        return known;
    }

    private static void places(WithinWords x, String w, String v) {
        if (!standsIn(w, v)) {
            Check.due("25: none", x.places(0, 2, true), WithinWords.NONE);
            return;
        }
        long some = 0;
        long every = 0;
        for (int i = 0; i < w.length(); i++) {
            for (int j = 0; j < v.length(); j++) {
                boolean ahead = standsIn(w.substring(0, i), v.substring(0, j));
                boolean behind = standsIn(w.substring(i + 1), v.substring(j + 1));
                some |= w.charAt(i) == v.charAt(j) && ahead && behind ? 1L << i : 0;
            }
            every |= standsIn(new StringBuilder(w).deleteCharAt(i).toString(), v) ? 0 : 1L << i;
        }
        Check.due("25: some", x.places(0, 2, false), Long.bitCount(some));
        Check.due("25: some of " + v + " in " + w, x.many(), some);
        Check.due("25: every", x.places(0, 2, true), Long.bitCount(every));
        Check.due("25: every of " + v + " in " + w, x.many(), every);
    }

    private void dropping(int k) {
        String w = randomWord(k, 34 + random.nextInt(7));
        WithinWords x = Play.with(k, w);
        for (int d : new int[] {0, 1, 2, 3, 4, 6, 9, 20, 40}) {
            StringBuilder left = new StringBuilder(w);
            int i = 0;
            while (i < left.length()) {
                String part = partingOf(w, new StringBuilder(left).deleteCharAt(i).toString(), k);
                if (part == null || part.length() > d) {
                    left.deleteCharAt(i);
                } else {
                    i++;
                }
            }
            Check.due("17: drop to " + d, x.drop(1, 0, d), left.length());
            Check.due("17: " + w + " dropped to " + d, Play.read(x, 1), left.toString());
        }
    }

    private void ranks(int k) {
        String w = randomWord(k, 40);
        for (int n = 0; n <= 40; n += 1 + random.nextInt(4)) {
            // A new object each time: nothing is promised beyond 512 calls.
            WithinWords x = Play.with(k, w);
            x.inner(0, n);
            long many = x.many();
            String before = "";
            int step = (int) Math.max(1, Math.min(many, Integer.MAX_VALUE) / 3);
            for (long rank = 0; rank < many && rank <= Integer.MAX_VALUE; rank += step) {
                Check.due("30: byRank", x.byRank(0, n, (int) rank, 0), n);
                String word = Play.readLetters(x, 0);
                Check.holds("30: " + word + " stands in " + w, standsIn(w, word));
                Check.holds("30: " + before + " is ahead of " + word, rank == 0 || before.compareTo(word) < 0);
                Check.due("11: word of it", x.word(1, 0), n);
                Check.due("29: rank", x.rank(0, 1), 1);
                Check.due("29: rank of " + word, x.many(), rank);
                before = word;
            }
            if (many <= Integer.MAX_VALUE) {
                Check.due("30: none behind", x.byRank(0, n, (int) many, 0), WithinWords.NONE);
            }
        }
    }

    private static boolean isBetter(String one, String than, boolean longest) {
        if (than == null || one.length() == than.length()) {
            return than == null || one.compareTo(than) < 0;
        }
        return longest == one.length() > than.length();
    }

    private static String commonOf(List<String> left, int k, Map<List<String>, String> kept) {
        String best = kept.get(left);
        if (best != null) {
            return best;
        }
        best = "";
        for (char c = 'a'; c < 'a' + k; c++) {
            List<String> after = new ArrayList<>();
            for (String s : left) {
                if (s.indexOf(c) >= 0) {
                    after.add(s.substring(s.indexOf(c) + 1));
                }
            }
            if (after.size() == left.size()) {
                String one = c + commonOf(after, k, kept);
                best = isBetter(one, best, true) ? one : best;
            }
        }
        kept.put(left, best);
        return best;
    }

    private static String coverOf(List<String> left, int k, Map<List<String>, String> kept) {
        String best = kept.get(left);
        if (best != null) {
            return best;
        }
        for (char c = 'a'; c < 'a' + k; c++) {
            List<String> after = new ArrayList<>();
            for (String s : left) {
                after.add(!s.isEmpty() && s.charAt(0) == c ? s.substring(1) : s);
            }
            if (!after.equals(left)) {
                String one = c + coverOf(after, k, kept);
                best = isBetter(one, best, false) ? one : best;
            }
        }
        best = best == null ? "" : best;
        kept.put(left, best);
        return best;
    }

    private void several(int k) {
        for (int[] sizes : new int[][] {{40}, {40, 40}, {26, 26, 26}, {11, 10, 10, 11}, {40, 3, 30, 2}}) {
            List<String> words = new ArrayList<>();
            for (int n : sizes) {
                words.add(randomWord(k, n));
            }
            WithinWords x = Play.with(k, words.toArray(new String[0]));
            int set = (1 << sizes.length) - 1;
            String common = commonOf(words, k, new HashMap<>());
            Check.due("36: common", x.common(set, 0), common.length());
            Check.due("36: common of " + words, Play.readLetters(x, 0), common);
            String cover = coverOf(words, k, new HashMap<>());
            Check.due("37: cover", x.cover(set, 0), cover.length());
            Check.due("37: cover of " + words, Play.readLetters(x, 0),
                    cover.substring(0, Math.min(40, cover.length())));
        }
    }
}
