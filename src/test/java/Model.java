import java.math.BigInteger;
import java.util.ArrayList;
import java.util.HashMap;
import java.util.List;
import java.util.Map;
import java.util.TreeSet;

/**
 * The document once more, by trying all that there is: for small words (some ten letters) alone.
 * It shares no code and, where that can be, no way of reckoning with the class.
 */
final class Model {
    static final int BAD = -1, FULL = -2, FINDING = -3, STATE = -4, SPENT = -6, NONE = -9;

    final int[][] rows = new int[6][];
    final byte[][] texts = new byte[4][];
    final String[] words = new String[8];
    final int[] kinds = new int[8];
    final int[] sources = new int[8];
    final int[] tolds = new int[8];
    int k = 3;
    int asked = 0;
    long many = 0;
    BigInteger upper = BigInteger.ZERO;
    BigInteger lower = BigInteger.ONE;
    int finding = 0;
    final int[] findings = new int[6];

    private int find(int f) {
        finding = f;
        findings[f]++;
        return FINDING;
    }

    private static boolean in(int x, int low, int high) {
        return low <= x && x <= high;
    }

    private static boolean isRow(int r) {
        return in(r, 0, 5);
    }

    private static boolean isWord(int w) {
        return in(w, 0, 7);
    }

    private int refuseWords(int... which) {
        for (int w : which) {
            if (!isWord(w)) {
                return BAD;
            }
        }
        for (int w : which) {
            if (words[w] == null) {
                return find(1);
            }
        }
        return 0;
    }

    private int become(int w, String letters, int kind, int source, int told) {
        words[w] = letters;
        kinds[w] = kind;
        sources[w] = source;
        tolds[w] = told;
        return letters.length();
    }

    private int toRow(int r, String letters) {
        int n = Math.min(40, letters.length());
        rows[r] = new int[n];
        for (int i = 0; i < n; i++) {
            rows[r][i] = letters.charAt(i) - 'a';
        }
        return letters.length();
    }

    // ---- 1 rows, texts, words

    int row(int r, int n) {
        if (!isRow(r) || n > 40) {
            return BAD;
        }
        if (n < 0) {
            return find(5);
        }
        rows[r] = new int[n];
        return n;
    }

    int lay(int r, int i, int v) {
        int no = at(r, i);
        if (no == 1) {
            rows[r][i] = v;
        }
        return no;
    }

    int at(int r, int i) {
        if (!isRow(r)) {
            return BAD;
        }
        if (rows[r] == null) {
            return find(1);
        }
        if (!in(i, 0, rows[r].length - 1)) {
            return find(2);
        }
        asked = rows[r][i];
        return 1;
    }

    int tear(int r) {
        if (!isRow(r)) {
            return BAD;
        }
        if (rows[r] == null) {
            return find(1);
        }
        rows[r] = null;
        return 1;
    }

    int copy(int r, int i, int to, int j, int n) {
        if (!isRow(r) || !isRow(to)) {
            return BAD;
        }
        if (n < 0) {
            return find(5);
        }
        if (rows[r] == null || rows[to] == null) {
            return find(1);
        }
        if (i < 0 || (long) i + n > rows[r].length || j < 0 || (long) j + n > rows[to].length) {
            return find(2);
        }
        int[] taken = rows[r].clone();
        for (int t = 0; t < n; t++) {
            rows[to][j + t] = taken[i + t];
        }
        return 1;
    }

    int mean(int r) {
        if (!isRow(r)) {
            return BAD;
        }
        if (rows[r] == null) {
            return find(1);
        }
        if (rows[r].length == 0) {
            return find(4);
        }
        BigInteger sum = BigInteger.ZERO;
        for (int v : rows[r]) {
            sum = sum.add(BigInteger.valueOf(v));
        }
        asked = sum.divide(BigInteger.valueOf(rows[r].length)).intValueExact();
        return 1;
    }

    int text(int t, int n) {
        if (!in(t, 0, 3) || n > 60) {
            return BAD;
        }
        if (n < 0) {
            return find(5);
        }
        texts[t] = new byte[n];
        java.util.Arrays.fill(texts[t], (byte) 32);
        return n;
    }

    int put(int t, int i, int v) {
        if (!in(t, 0, 3)) {
            return BAD;
        }
        if (texts[t] == null) {
            return find(1);
        }
        if (!in(i, 0, texts[t].length - 1)) {
            return find(2);
        }
        int old = texts[t][i];
        texts[t][i] = (byte) v;
        return old + 1000;
    }

    int letters(int newK) {
        if (!in(newK, 1, 6)) {
            return BAD;
        }
        for (String word : words) {
            if (word != null && word.chars().anyMatch(c -> c - 'a' >= newK)) {
                return STATE;
            }
        }
        int old = k;
        k = newK;
        return old;
    }

    int word(int w, int r) {
        if (!isWord(w) || !isRow(r)) {
            return BAD;
        }
        if (rows[r] == null) {
            return find(1);
        }
        StringBuilder letters = new StringBuilder();
        for (int v : rows[r]) {
            if (!in(v, 0, k - 1)) {
                return find(3);
            }
            letters.append((char) ('a' + v));
        }
        return become(w, letters.toString(), 0, 0, 0);
    }

    /**
     * Whether some whole text that begins with these signs has no fault: a prefix can go on, if brackets
     * and a letter can be added to make it whole. Brackets deeper than 4 never can.
     */
    private boolean canGoOn(String begun) {
        for (String more : new String[] {"", "a", ")", "))", ")))", "))))", "a)", "a))", "a)))", "a))))"}) {
            if (spell(begun + more) != null) {
                return true;
            }
        }
        return false;
    }

    /** The word of a text, or null where it has a fault; words beyond 100000 letters are cut. */
    private String spell(String text) {
        String inside = text.replaceAll("^ +", "").replaceAll(" +$", "");
        if (inside.isEmpty()) {
            return "";
        }
        int[] at = {0};
        String spelled = spellItems(inside, at, 0);
        return spelled == null || at[0] < inside.length() ? null : spelled;
    }

    private String spellItems(String s, int[] at, int depth) {
        StringBuilder out = new StringBuilder();
        while (at[0] < s.length() && s.charAt(at[0]) != ')') {
            char c = s.charAt(at[0]++);
            String item;
            if (c == '(') {
                item = depth == 4 ? null : spellItems(s, at, depth + 1);
                if (item == null || at[0] >= s.length()) {
                    return null;
                }
                at[0]++;
            } else {
                item = c >= 'a' && c < 'a' + k ? String.valueOf(c) : null;
            }
            if (item == null) {
                return null;
            }
            int times = 1;
            if (at[0] < s.length() && s.charAt(at[0]) >= '1' && s.charAt(at[0]) <= '9') {
                times = s.charAt(at[0]++) - '0';
            }
            for (int t = 0; t < times && out.length() < 100000; t++) {
                out.append(item);
            }
        }
        return out.length() == 0 ? null : out.toString();
    }

    private String signsOf(int t) {
        StringBuilder signs = new StringBuilder();
        for (byte b : texts[t]) {
            signs.append((char) (b & 255));
        }
        return signs.toString();
    }

    int fault(int t) {
        if (!in(t, 0, 3)) {
            return BAD;
        }
        if (texts[t] == null) {
            return find(1);
        }
        String signs = signsOf(t);
        if (spell(signs) != null) {
            return NONE;
        }
        for (int i = 0; i < signs.length(); i++) {
            if (!canGoOn(signs.substring(0, i + 1))) {
                return i;
            }
        }
        return signs.length();
    }

    int tell(int w, int t) {
        if (!isWord(w) || !in(t, 0, 3)) {
            return BAD;
        }
        if (texts[t] == null) {
            return find(1);
        }
        String spelled = spell(signsOf(t));
        if (spelled == null) {
            return STATE;
        }
        if (spelled.length() > 40) {
            return FULL;
        }
        return become(w, spelled, 1, 0, texts[t].length);
    }

    int join(int w, int a, int b) {
        if (!isWord(w)) {
            return BAD;
        }
        int no = refuseWords(a, b);
        if (no != 0) {
            return no;
        }
        String joined = words[a] + words[b];
        return joined.length() > 40 ? FULL : become(w, joined, 2, a, 0);
    }

    int part(int w, int a, int i, int n) {
        if (!isWord(w) || !isWord(a)) {
            return BAD;
        }
        if (n < 0) {
            return find(5);
        }
        int no = refuseWords(a);
        if (no != 0) {
            return no;
        }
        if (i < 0 || (long) i + n > words[a].length()) {
            return find(2);
        }
        return become(w, words[a].substring(i, i + n), 2, a, 0);
    }

    int turn(int w, int a, int how) {
        if (!isWord(w) || !in(how, 0, 1)) {
            return BAD;
        }
        int no = refuseWords(a);
        if (no != 0) {
            return no;
        }
        StringBuilder turned = new StringBuilder();
        for (char c : words[a].toCharArray()) {
            turned.append(how == 0 ? c : (char) ('a' + k - 1 - (c - 'a')));
        }
        return become(w, (how == 0 ? turned.reverse() : turned).toString(), 3, a, how);
    }

    int drop(int w, int a, int d) {
        if (!isWord(w) || !in(d, 0, 40)) {
            return BAD;
        }
        int no = refuseWords(a);
        if (no != 0) {
            return no;
        }
        TreeSet<String> wanted = innerTo(words[a], d);
        StringBuilder left = new StringBuilder(words[a]);
        int i = 0;
        while (i < left.length()) {
            String without = new StringBuilder(left).deleteCharAt(i).toString();
            if (innerTo(without, d).equals(wanted)) {
                left.deleteCharAt(i);
            } else {
                i++;
            }
        }
        return become(w, left.toString(), 4, a, d);
    }

    int erase(int w) {
        int no = refuseWords(w);
        if (no != 0) {
            return no;
        }
        words[w] = null;
        return 1;
    }

    int size(int w) {
        int no = refuseWords(w);
        return no != 0 ? no : words[w].length();
    }

    int letter(int w, int i) {
        int no = refuseWords(w);
        if (no != 0) {
            return no;
        }
        return in(i, 0, words[w].length() - 1) ? words[w].charAt(i) - 'a' : find(2);
    }

    int kind(int w) {
        int no = refuseWords(w);
        return no != 0 ? no : kinds[w];
    }

    int mark(int w, int kind) {
        if (!isWord(w) || !in(kind, 1, 4)) {
            return BAD;
        }
        int no = refuseWords(w);
        if (no != 0) {
            return no;
        }
        if (kind == 2) {
            return kinds[w] >= 2 ? sources[w] : find(3);
        }
        return kinds[w] == kind ? tolds[w] : find(3);
    }

    // ---- 2 what stands in a word

    private final Map<String, TreeSet<String>> innerKept = new HashMap<>();

    private TreeSet<String> innerOf(String w) {
        TreeSet<String> kept = innerKept.get(w);
        if (kept == null) {
            kept = new TreeSet<>();
            for (int mask = 0; mask < 1 << w.length(); mask++) {
                kept.add(takenBy(w, mask));
            }
            innerKept.put(w, kept);
        }
        return kept;
    }

    private TreeSet<String> innerTo(String w, int d) {
        TreeSet<String> inner = new TreeSet<>(innerOf(w));
        inner.removeIf(s -> s.length() > d);
        return inner;
    }

    private static String takenBy(String w, int mask) {
        StringBuilder taken = new StringBuilder();
        for (int i = 0; i < w.length(); i++) {
            if ((mask >> i & 1) == 1) {
                taken.append(w.charAt(i));
            }
        }
        return taken.toString();
    }

    private static List<Integer> masksOf(String w, String v) {
        List<Integer> masks = new ArrayList<>();
        for (int mask = 0; mask < 1 << w.length(); mask++) {
            if (Integer.bitCount(mask) == v.length() && takenBy(w, mask).equals(v)) {
                masks.add(mask);
            }
        }
        return masks;
    }

    private static int[] placesOf(int mask) {
        int[] places = new int[Integer.bitCount(mask)];
        int n = 0;
        for (int i = 0; i < 31; i++) {
            if ((mask >> i & 1) == 1) {
                places[n++] = i;
            }
        }
        return places;
    }

    int ways(int w, int v) {
        int no = refuseWords(w, v);
        if (no != 0) {
            return no;
        }
        many = masksOf(words[w], words[v]).size();
        return many == 0 ? 0 : 1;
    }

    int way(int w, int v, int r, boolean last) {
        if (!isRow(r)) {
            return BAD;
        }
        int no = refuseWords(w, v);
        if (no != 0) {
            return no;
        }
        List<Integer> masks = masksOf(words[w], words[v]);
        if (masks.isEmpty()) {
            return NONE;
        }
        int[] best = placesOf(masks.get(0));
        for (int mask : masks) {
            int[] places = placesOf(mask);
            for (int j = 0; j < best.length; j++) {
                best[j] = last ? Math.max(best[j], places[j]) : Math.min(best[j], places[j]);
            }
        }
        rows[r] = best;
        return best.length;
    }

    int places(int w, int v, boolean all) {
        int no = refuseWords(w, v);
        if (no != 0) {
            return no;
        }
        List<Integer> masks = masksOf(words[w], words[v]);
        if (masks.isEmpty()) {
            return NONE;
        }
        int bits = all ? -1 : 0;
        for (int mask : masks) {
            bits = all ? bits & mask : bits | mask;
        }
        many = bits;
        return Integer.bitCount(bits);
    }

    int judge(int w, int v, int r) {
        if (!isRow(r)) {
            return BAD;
        }
        int no = refuseWords(w, v);
        if (no != 0) {
            return no;
        }
        if (rows[r] == null) {
            return find(1);
        }
        for (int mask : masksOf(words[w], words[v])) {
            if (java.util.Arrays.equals(placesOf(mask), rows[r])) {
                return 1;
            }
        }
        return 0;
    }

    int bar(int w, int v) {
        int no = refuseWords(w, v);
        if (no != 0) {
            return no;
        }
        if (words[v].isEmpty()) {
            return STATE;
        }
        List<Integer> masks = masksOf(words[w], words[v]);
        int fewest = words[w].length();
        for (int gone = 0; gone < 1 << words[w].length(); gone++) {
            int without = gone;
            if (Integer.bitCount(gone) < fewest && masks.stream().allMatch(mask -> (mask & without) != 0)) {
                fewest = Integer.bitCount(gone);
            }
        }
        return fewest;
    }

    int inner(int w, int n) {
        if (!in(n, 0, 40) && n != NONE) {
            return BAD;
        }
        int no = refuseWords(w);
        if (no != 0) {
            return no;
        }
        many = innerOf(words[w]).stream().filter(s -> n == NONE || s.length() == n).count();
        return 1;
    }

    int rank(int w, int v) {
        int no = refuseWords(w, v);
        if (no != 0) {
            return no;
        }
        if (!innerOf(words[w]).contains(words[v])) {
            return NONE;
        }
        many = innerOf(words[w]).headSet(words[v]).stream().filter(s -> s.length() == words[v].length()).count();
        return 1;
    }

    int byRank(int w, int n, int rank, int r) {
        if (!in(n, 0, 40) || rank < 0 || !isRow(r)) {
            return BAD;
        }
        int no = refuseWords(w);
        if (no != 0) {
            return no;
        }
        int left = rank;
        for (String s : innerOf(words[w])) {
            if (s.length() == n && left-- == 0) {
                return toRow(r, s);
            }
        }
        return NONE;
    }

    /** Cuts the ARCHES off from the beginning, as the document tells it: {how many, what is left}. */
    private String[] cutArches(String w) {
        String rest = w;
        int n = 0;
        boolean again = true;
        while (again) {
            again = false;
            for (int end = 1; end <= rest.length() && !again; end++) {
                if (rest.substring(0, end).chars().distinct().count() == k) {
                    rest = rest.substring(end);
                    n++;
                    again = true;
                }
            }
        }
        return new String[] {String.valueOf(n), rest};
    }

    int arches(int w) {
        int no = refuseWords(w);
        if (no != 0) {
            return no;
        }
        String[] cut = cutArches(words[w]);
        asked = cut[1].length();
        return Integer.parseInt(cut[0]);
    }

    private List<String> allWords(int n) {
        List<String> all = new ArrayList<>();
        all.add("");
        for (int i = 0; i < n; i++) {
            List<String> longer = new ArrayList<>();
            for (String s : all) {
                for (int c = 0; c < k; c++) {
                    longer.add(s + (char) ('a' + c));
                }
            }
            all = longer;
        }
        return all;
    }

    int absent(int w, int r) {
        if (!isRow(r)) {
            return BAD;
        }
        int no = refuseWords(w);
        if (no != 0) {
            return no;
        }
        for (int n = 0; n <= 41; n++) {
            List<String> missing = allWords(n);
            missing.removeIf(innerOf(words[w])::contains);
            if (!missing.isEmpty()) {
                many = missing.size();
                return toRow(r, missing.get(0));
            }
        }
        throw new AssertionError("no absent word");
    }

    int added(int w, int d) {
        if (!in(d, 0, 40)) {
            return BAD;
        }
        int no = refuseWords(w);
        if (no != 0) {
            return no;
        }
        String grown = words[w];
        int n = 0;
        while (Integer.parseInt(cutArches(grown)[0]) < d) {
            String rest = cutArches(grown)[1];
            char c = 'a';
            while (rest.indexOf(c) >= 0) {
                c++;
            }
            grown = grown + c;
            n++;
        }
        return n;
    }

    // ---- 3 alike, several, told back

    int alike(int a, int b, int d) {
        if (!in(d, 0, 40)) {
            return BAD;
        }
        int no = refuseWords(a, b);
        if (no != 0) {
            return no;
        }
        return innerTo(words[a], d).equals(innerTo(words[b], d)) ? 1 : 0;
    }

    int parting(int a, int b, int r) {
        if (!isRow(r)) {
            return BAD;
        }
        int no = refuseWords(a, b);
        if (no != 0) {
            return no;
        }
        TreeSet<String> apart = new TreeSet<>(innerOf(words[a]));
        apart.addAll(innerOf(words[b]));
        apart.removeIf(s -> innerOf(words[a]).contains(s) && innerOf(words[b]).contains(s));
        String best = null;
        for (String s : apart) {
            if (best == null || s.length() < best.length()) {
                best = s;
            }
        }
        return best == null ? NONE : toRow(r, best);
    }

    private int refuseSet(int set, int r) {
        if (!isRow(r) || !in(set, 1, 255) || Integer.bitCount(set) > 4) {
            return BAD;
        }
        int states = 1;
        for (int w = 0; w < 8; w++) {
            if ((set >> w & 1) == 1 && words[w] == null) {
                return find(1);
            }
        }
        for (int w = 0; w < 8; w++) {
            if ((set >> w & 1) == 1) {
                states *= words[w].length() + 1;
            }
        }
        return states > 20000 ? SPENT : 0;
    }

    private List<String> wordsOf(int set) {
        List<String> list = new ArrayList<>();
        for (int w = 0; w < 8; w++) {
            if ((set >> w & 1) == 1) {
                list.add(words[w]);
            }
        }
        return list;
    }

    int common(int set, int r) {
        int no = refuseSet(set, r);
        if (no != 0) {
            return no;
        }
        TreeSet<String> shared = new TreeSet<>(innerOf(wordsOf(set).get(0)));
        for (String w : wordsOf(set)) {
            shared.retainAll(innerOf(w));
        }
        String best = "";
        for (String s : shared) {
            if (s.length() > best.length()) {
                best = s;
            }
        }
        return toRow(r, best);
    }

    int cover(int set, int r) {
        int no = refuseSet(set, r);
        return no != 0 ? no : toRow(r, coverOf(wordsOf(set), new HashMap<>()));
    }

    private String coverOf(List<String> left, Map<List<String>, String> kept) {
        if (left.stream().allMatch(String::isEmpty)) {
            return "";
        }
        String best = kept.get(left);
        if (best != null) {
            return best;
        }
        for (char c = 'a'; c < 'a' + k; c++) {
            List<String> after = new ArrayList<>();
            for (String s : left) {
                after.add(!s.isEmpty() && s.charAt(0) == c ? s.substring(1) : s);
            }
            if (!after.equals(left)) {
                String one = c + coverOf(after, kept);
                if (best == null || one.length() < best.length()) {
                    best = one;
                }
            }
        }
        kept.put(left, best);
        return best;
    }

    int both(int a, int b) {
        int no = refuseWords(a, b);
        if (no != 0) {
            return no;
        }
        many = innerOf(words[a]).stream().filter(innerOf(words[b])::contains).count();
        return 1;
    }

    private Map<String, Integer> spectrum(String w, int d) {
        Map<String, Integer> counts = new HashMap<>();
        for (int mask = 0; mask < 1 << w.length(); mask++) {
            if (Integer.bitCount(mask) == d) {
                counts.merge(takenBy(w, mask), 1, Integer::sum);
            }
        }
        return counts;
    }

    int twins(int w, int d, int r) {
        if (!isRow(r) || !in(d, 1, 3)) {
            return BAD;
        }
        int no = refuseWords(w);
        if (no != 0) {
            return no;
        }
        if (BigInteger.valueOf(k).pow(words[w].length()).compareTo(BigInteger.valueOf(10000)) > 0) {
            return SPENT;
        }
        Map<String, Integer> wanted = spectrum(words[w], d);
        List<String> twins = allWords(words[w].length());
        twins.removeIf(s -> !spectrum(s, d).equals(wanted));
        toRow(r, twins.get(0));
        return twins.size();
    }

    private void tellFraction(BigInteger above, BigInteger below) {
        upper = above.divide(above.gcd(below));
        lower = below.divide(above.gcd(below));
    }

    int odds(int w, int v) {
        int no = refuseWords(w, v);
        if (no != 0) {
            return no;
        }
        if (words[v].length() > words[w].length()) {
            return find(4);
        }
        int choices = 0;
        for (int mask = 0; mask < 1 << words[w].length(); mask++) {
            choices += Integer.bitCount(mask) == words[v].length() ? 1 : 0;
        }
        tellFraction(BigInteger.valueOf(masksOf(words[w], words[v]).size()), BigInteger.valueOf(choices));
        return 1;
    }

    /** Counts words of m letters by how much of v each has met. */
    int byChance(int v, int m) {
        if (!in(m, 0, 20)) {
            return BAD;
        }
        int no = refuseWords(v);
        if (no != 0) {
            return no;
        }
        int n = words[v].length();
        BigInteger[] met = new BigInteger[n + 1];
        java.util.Arrays.fill(met, BigInteger.ZERO);
        met[0] = BigInteger.ONE;
        for (int i = 0; i < m; i++) {
            BigInteger[] then = new BigInteger[n + 1];
            java.util.Arrays.fill(then, BigInteger.ZERO);
            for (int j = 0; j <= n; j++) {
                for (char c = 'a'; c < 'a' + k; c++) {
                    int to = j < n && words[v].charAt(j) == c ? j + 1 : j;
                    then[to] = then[to].add(met[j]);
                }
            }
            met = then;
        }
        tellFraction(met[n], BigInteger.valueOf(k).pow(m));
        return 1;
    }

    // ---- 4 what is told

    int count(int what) {
        int rowsThere = 0;
        int textsThere = 0;
        int wordsThere = 0;
        int made = 0;
        int letters = 0;
        for (int[] row : rows) {
            rowsThere += row == null ? 0 : 1;
        }
        for (byte[] text : texts) {
            textsThere += text == null ? 0 : 1;
        }
        for (int w = 0; w < 8; w++) {
            if (words[w] != null) {
                wordsThere++;
                letters += words[w].length();
                made += kinds[w] >= 2 ? 1 : 0;
            }
        }
        int[] told = {k, rowsThere, textsThere, wordsThere, made, letters};
        return in(what, 0, 5) ? told[what] : BAD;
    }

    int findings(int f) {
        return in(f, 1, 5) ? findings[f] : BAD;
    }

    long digest() {
        List<Integer> values = new ArrayList<>();
        for (int what = 0; what < 6; what++) {
            values.add(count(what));
        }
        for (int w = 0; w < 8; w++) {
            if (words[w] == null) {
                values.add(-1);
                continue;
            }
            values.add(kinds[w]);
            values.add(kinds[w] == 0 ? 0 : kinds[w] == 2 ? sources[w] : tolds[w]);
            values.add(words[w].length());
            words[w].chars().forEach(c -> values.add(c - 'a'));
        }
        for (int[] row : rows) {
            values.add(row == null ? -1 : row.length);
            for (int i = 0; row != null && i < row.length; i++) {
                values.add(row[i]);
            }
        }
        for (byte[] text : texts) {
            values.add(text == null ? -1 : text.length);
            for (int i = 0; text != null && i < text.length; i++) {
                values.add((int) text[i]);
            }
        }
        long h = 17;
        for (int v : values) {
            h = 31 * h + v;
        }
        return h;
    }
}
