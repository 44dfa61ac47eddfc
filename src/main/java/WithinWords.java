public final class WithinWords {
    public static final int BAD = -1, FULL = -2, FINDING = -3, STATE = -4, SPENT = -6, NONE = -9;

    private static final int NOTHING = 1, BEYOND = 2, UNLIKE = 3, NOUGHT = 4, SIZE = 5;
    private static final int OF_ROW = 0, TOLD = 1, MADE = 2, TURNED = 3, DROPPED = 4;
    private static final int ROWS = 6, TEXTS = 4, WORDS = 8;
    private static final int ROW_MOST = 40, TEXT_MOST = 60, LETTERS_MOST = 6;
    private static final int SEVERAL_MOST = 4, CHANCE_MOST = 20, TWIN_DEPTH = 3;
    private static final int STATES_MOST = 20000, TWINS_MOST = 10000;
    private static final int MISSING = -1, BLANK = 32;
    // A square table over the places of two words, their ends too.
    private static final int SIDE = ROW_MOST + 1;

    private final Line[] rows = new Line[ROWS];
    private final Line[] texts = new Line[TEXTS];
    private final Word[] words = new Word[WORDS];
    private int alphabet = 3;
    private int lastAsked = 0;
    private long lastMany = 0;
    private long lastUpper = 0;
    private long lastLower = 1;
    private int lastFinding = 0;
    private final int[] answered = new int[SIZE + 1];
    // Where a call builds a row or a word before it replaces one that it may still read.
    private final int[] built = new int[2 * ROW_MOST];
    private final Spelling spelling = new Spelling();
    private final Standing standing = new Standing();
    private final InnerWords innerWords;
    private final Arches archReader = new Arches();
    private final Pair pair;
    private final Dropping dropping = new Dropping();
    private final Several several = new Several();
    private final Twins twinSearch = new Twins();

    public WithinWords() {
        for (int r = 0; r < ROWS; r++) {
            rows[r] = new Line(ROW_MOST);
        }
        for (int t = 0; t < TEXTS; t++) {
            texts[t] = new Line(TEXT_MOST);
        }
        for (int w = 0; w < WORDS; w++) {
            words[w] = new Word();
        }
        long[] square = new long[SIDE * SIDE];
        innerWords = new InnerWords(square);
        pair = new Pair(square);
    }

    // ---- 1 rows, texts, words

    public int row(int r, int n) {
        if (noRow(r) || n > ROW_MOST) {
            return BAD;
        }
        if (n < 0) {
            return found(SIZE);
        }
        rows[r].begin(n, 0);
        return n;
    }

    public int lay(int r, int i, int v) {
        int no = refusePlace(r, i);
        if (no != 0) {
            return no;
        }
        lastAsked = rows[r].v[i];
        rows[r].v[i] = v;
        return 1;
    }

    public int at(int r, int i) {
        int no = refusePlace(r, i);
        if (no != 0) {
            return no;
        }
        lastAsked = rows[r].v[i];
        return 1;
    }

    public int tear(int r) {
        int no = refuseRow(r);
        if (no != 0) {
            return no;
        }
        rows[r].len = MISSING;
        return 1;
    }

    public int copy(int r, int i, int to, int j, int n) {
        if (noRow(r) || noRow(to)) {
            return BAD;
        }
        if (n < 0) {
            return found(SIZE);
        }
        if (rows[r].isMissing() || rows[to].isMissing()) {
            return found(NOTHING);
        }
        if (!rows[r].reaches(i, n) || !rows[to].reaches(j, n)) {
            return found(BEYOND);
        }
        System.arraycopy(rows[r].v, i, rows[to].v, j, n);
        return 1;
    }

    public int mean(int r) {
        int no = refuseRow(r);
        if (no != 0) {
            return no;
        }
        Line row = rows[r];
        if (row.len == 0) {
            return found(NOUGHT);
        }
        long sum = 0;
        for (int i = 0; i < row.len; i++) {
            sum += row.v[i];
        }
        lastAsked = (int) (sum / row.len);
        return 1;
    }

    public int text(int t, int n) {
        if (noText(t) || n > TEXT_MOST) {
            return BAD;
        }
        if (n < 0) {
            return found(SIZE);
        }
        texts[t].begin(n, BLANK);
        return n;
    }

    public int put(int t, int i, int v) {
        int no = refuseText(t);
        if (no != 0) {
            return no;
        }
        if (!texts[t].has(i)) {
            return found(BEYOND);
        }
        int old = texts[t].v[i];
        texts[t].v[i] = (byte) v;
        return old + 1000;
    }

    public int letters(int k) {
        if (k < 1 || k > LETTERS_MOST) {
            return BAD;
        }
        for (int w = 0; w < WORDS; w++) {
            if (!words[w].line.isBelow(k)) {
                return STATE;
            }
        }
        int old = alphabet;
        alphabet = k;
        return old;
    }

    public int word(int w, int r) {
        if (noWord(w) || noRow(r)) {
            return BAD;
        }
        Line row = rows[r];
        if (row.isMissing()) {
            return found(NOTHING);
        }
        if (!row.isBelow(alphabet)) {
            return found(UNLIKE);
        }
        return words[w].become(row.v, row.len, OF_ROW, 0, 0);
    }

    public int fault(int t) {
        int no = refuseText(t);
        return no != 0 ? no : spelling.read(texts[t], alphabet);
    }

    public int tell(int w, int t) {
        if (noWord(w)) {
            return BAD;
        }
        int no = refuseText(t);
        if (no != 0) {
            return no;
        }
        if (spelling.read(texts[t], alphabet) != NONE) {
            return STATE;
        }
        if (spelling.len > ROW_MOST) {
            return FULL;
        }
        return words[w].become(spelling.spelled, spelling.len, TOLD, 0, texts[t].len);
    }

    public int join(int w, int a, int b) {
        if (noWord(w)) {
            return BAD;
        }
        int no = refuseWords(a, b);
        if (no != 0) {
            return no;
        }
        Line first = words[a].line;
        Line second = words[b].line;
        int n = first.len + second.len;
        if (n > ROW_MOST) {
            return FULL;
        }
        System.arraycopy(first.v, 0, built, 0, first.len);
        System.arraycopy(second.v, 0, built, first.len, second.len);
        return words[w].become(built, n, MADE, a, 0);
    }

    public int part(int w, int a, int i, int n) {
        if (noWord(w) || noWord(a)) {
            return BAD;
        }
        if (n < 0) {
            return found(SIZE);
        }
        Line whole = words[a].line;
        if (whole.isMissing()) {
            return found(NOTHING);
        }
        if (!whole.reaches(i, n)) {
            return found(BEYOND);
        }
        System.arraycopy(whole.v, i, built, 0, n);
        return words[w].become(built, n, MADE, a, 0);
    }

    public int turn(int w, int a, int how) {
        if (noWord(w) || how < 0 || how > 1) {
            return BAD;
        }
        int no = refuseWord(a);
        if (no != 0) {
            return no;
        }
        Line from = words[a].line;
        for (int i = 0; i < from.len; i++) {
            built[i] = how == 0 ? from.v[from.len - 1 - i] : alphabet - 1 - from.v[i];
        }
        return words[w].become(built, from.len, TURNED, a, how);
    }

    public int drop(int w, int a, int d) {
        if (noWord(w) || noLength(d)) {
            return BAD;
        }
        int no = refuseWord(a);
        if (no != 0) {
            return no;
        }
        int n = dropping.keep(words[a].line, d, built);
        return words[w].become(built, n, DROPPED, a, d);
    }

    public int erase(int w) {
        int no = refuseWord(w);
        if (no != 0) {
            return no;
        }
        words[w].line.len = MISSING;
        return 1;
    }

    public int size(int w) {
        int no = refuseWord(w);
        return no != 0 ? no : words[w].line.len;
    }

    public int letter(int w, int i) {
        int no = refuseWord(w);
        if (no != 0) {
            return no;
        }
        if (!words[w].line.has(i)) {
            return found(BEYOND);
        }
        return words[w].line.v[i];
    }

    public int kind(int w) {
        int no = refuseWord(w);
        return no != 0 ? no : words[w].sort;
    }

    public int mark(int w, int kind) {
        if (kind < TOLD || kind > DROPPED) {
            return BAD;
        }
        int no = refuseWord(w);
        if (no != 0) {
            return no;
        }
        if (!words[w].is(kind)) {
            return found(UNLIKE);
        }
        return words[w].markOf(kind);
    }

    // ---- 2 what stands in a word

    public int ways(int w, int v) {
        int no = refuseWords(w, v);
        if (no != 0) {
            return no;
        }
        lastMany = standing.countWays(words[w].line, words[v].line);
        return lastMany > 0 ? 1 : 0;
    }

    public int way(int w, int v, int r, boolean last) {
        if (noRow(r)) {
            return BAD;
        }
        int no = refuseWords(w, v);
        if (no != 0) {
            return no;
        }
        if (!standing.readBounds(words[w].line, words[v].line)) {
            return NONE;
        }
        return rows[r].take(last ? standing.latest : standing.earliest, words[v].line.len);
    }

    public int places(int w, int v, boolean all) {
        int no = refuseWords(w, v);
        if (no != 0) {
            return no;
        }
        Line outer = words[w].line;
        Line within = words[v].line;
        if (!standing.readBounds(outer, within)) {
            return NONE;
        }
        lastMany = all ? standing.everyWay(within.len) : standing.someWay(outer, within);
        return Long.bitCount(lastMany);
    }

    public int judge(int w, int v, int r) {
        if (noRow(r)) {
            return BAD;
        }
        int no = refuseWords(w, v);
        if (no != 0) {
            return no;
        }
        if (rows[r].isMissing()) {
            return found(NOTHING);
        }
        return Standing.isWay(words[w].line, words[v].line, rows[r]) ? 1 : 0;
    }

    public int bar(int w, int v) {
        int no = refuseWords(w, v);
        if (no != 0) {
            return no;
        }
        if (words[v].line.len == 0) {
            return STATE;
        }
        return standing.fewestToBar(words[w].line, words[v].line);
    }

    public int inner(int w, int n) {
        if (n != NONE && noLength(n)) {
            return BAD;
        }
        int no = refuseWord(w);
        if (no != 0) {
            return no;
        }
        innerWords.read(words[w].line);
        lastMany = n == NONE ? innerWords.ofAnyLength() : innerWords.ofLength(n);
        return 1;
    }

    public int rank(int w, int v) {
        int no = refuseWords(w, v);
        if (no != 0) {
            return no;
        }
        innerWords.read(words[w].line);
        long before = innerWords.ahead(words[v].line);
        if (before < 0) {
            return NONE;
        }
        lastMany = before;
        return 1;
    }

    public int byRank(int w, int n, int rank, int r) {
        if (noLength(n) || rank < 0 || noRow(r)) {
            return BAD;
        }
        int no = refuseWord(w);
        if (no != 0) {
            return no;
        }
        innerWords.read(words[w].line);
        if (rank >= innerWords.ofLength(n)) {
            return NONE;
        }
        innerWords.pick(n, rank, built);
        return rows[r].take(built, n);
    }

    public int arches(int w) {
        int no = refuseWord(w);
        if (no != 0) {
            return no;
        }
        archReader.read(words[w].line, alphabet);
        lastAsked = archReader.rest;
        return archReader.closed;
    }

    public int absent(int w, int r) {
        if (noRow(r)) {
            return BAD;
        }
        int no = refuseWord(w);
        if (no != 0) {
            return no;
        }
        archReader.readAbsent(words[w].line, alphabet);
        lastMany = archReader.howMany[0];
        int n = archReader.shortest[0];
        rows[r].take(built, archReader.firstAbsent(alphabet, built));
        return n;
    }

    public int added(int w, int d) {
        if (noLength(d)) {
            return BAD;
        }
        int no = refuseWord(w);
        if (no != 0) {
            return no;
        }
        archReader.read(words[w].line, alphabet);
        return archReader.toClose(d, alphabet);
    }

    // ---- 3 alike, several, told back

    public int alike(int a, int b, int d) {
        if (noLength(d)) {
            return BAD;
        }
        int no = refuseWords(a, b);
        if (no != 0) {
            return no;
        }
        int apart = pair.measureParting(words[a].line, words[b].line);
        return apart == 0 || apart > d ? 1 : 0;
    }

    public int parting(int a, int b, int r) {
        if (noRow(r)) {
            return BAD;
        }
        int no = refuseWords(a, b);
        if (no != 0) {
            return no;
        }
        int n = pair.measureParting(words[a].line, words[b].line);
        if (n == 0) {
            return NONE;
        }
        pair.firstParting(n, built);
        return rows[r].take(built, n);
    }

    public int common(int set, int r) {
        int no = refuseSet(set, r);
        if (no != 0) {
            return no;
        }
        int n = several.longestCommon(built);
        return rows[r].take(built, n);
    }

    public int cover(int set, int r) {
        int no = refuseSet(set, r);
        if (no != 0) {
            return no;
        }
        int n = several.shortestCover(built);
        rows[r].take(built, Math.min(n, ROW_MOST));
        return n;
    }

    public int both(int a, int b) {
        int no = refuseWords(a, b);
        if (no != 0) {
            return no;
        }
        lastMany = pair.countShared(words[a].line, words[b].line);
        return 1;
    }

    public int twins(int w, int d, int r) {
        if (d < 1 || d > TWIN_DEPTH || noRow(r)) {
            return BAD;
        }
        int no = refuseWord(w);
        if (no != 0) {
            return no;
        }
        Line line = words[w].line;
        if (isPowerAbove(alphabet, line.len, TWINS_MOST)) {
            return SPENT;
        }
        int n = twinSearch.search(line, alphabet, d);
        rows[r].take(twinSearch.first, line.len);
        return n;
    }

    public int odds(int w, int v) {
        int no = refuseWords(w, v);
        if (no != 0) {
            return no;
        }
        Line outer = words[w].line;
        Line within = words[v].line;
        if (within.len > outer.len) {
            return found(NOUGHT);
        }
        tellFraction(standing.countWays(outer, within), choose(outer.len, within.len));
        return 1;
    }

    public int byChance(int v, int m) {
        if (m < 0 || m > CHANCE_MOST) {
            return BAD;
        }
        int no = refuseWord(v);
        if (no != 0) {
            return no;
        }
        // Reading greedily, each step waits for one letter, whichever it is: the letters of v do not matter.
        long holding = 0;
        for (int taken = words[v].line.len; taken <= m; taken++) {
            holding += choose(m, taken) * power(alphabet - 1, m - taken);
        }
        tellFraction(holding, power(alphabet, m));
        return 1;
    }

    // ---- 4 what is told

    public int asked() {
        return lastAsked;
    }

    public long many() {
        return lastMany;
    }

    public long upper() {
        return lastUpper;
    }

    public long lower() {
        return lastLower;
    }

    public int count(int what) {
        switch (what) {
            case 0:
                return alphabet;
            case 1:
                return countThere(rows);
            case 2:
                return countThere(texts);
            case 3:
                return countWords(OF_ROW);
            case 4:
                return countWords(MADE);
            case 5:
                return countLetters();
            default:
                return BAD;
        }
    }

    public int finding() {
        return lastFinding;
    }

    public int findings(int f) {
        return f < NOTHING || f > SIZE ? BAD : answered[f];
    }

    public long digest() {
        long h = 17;
        for (int what = 0; what <= 5; what++) {
            h = 31 * h + count(what);
        }
        for (int w = 0; w < WORDS; w++) {
            Word word = words[w];
            if (!word.line.isMissing()) {
                h = 31 * h + word.sort;
                h = 31 * h + word.markOf(word.sort);
            }
            h = word.line.mixInto(h);
        }
        for (int r = 0; r < ROWS; r++) {
            h = rows[r].mixInto(h);
        }
        for (int t = 0; t < TEXTS; t++) {
            h = texts[t].mixInto(h);
        }
        return h;
    }

    // ---- what is refused

    private static boolean noRow(int r) {
        return r < 0 || r >= ROWS;
    }

    private static boolean noText(int t) {
        return t < 0 || t >= TEXTS;
    }

    private static boolean noWord(int w) {
        return w < 0 || w >= WORDS;
    }

    private static boolean noLength(int n) {
        return n < 0 || n > ROW_MOST;
    }

    private int found(int f) {
        lastFinding = f;
        answered[f]++;
        return FINDING;
    }

    private int refuseRow(int r) {
        if (noRow(r)) {
            return BAD;
        }
        return rows[r].isMissing() ? found(NOTHING) : 0;
    }

    private int refusePlace(int r, int i) {
        int no = refuseRow(r);
        if (no != 0) {
            return no;
        }
        return rows[r].has(i) ? 0 : found(BEYOND);
    }

    private int refuseText(int t) {
        if (noText(t)) {
            return BAD;
        }
        return texts[t].isMissing() ? found(NOTHING) : 0;
    }

    private int refuseWord(int w) {
        return refuseWords(w, w);
    }

    private int refuseWords(int a, int b) {
        if (noWord(a) || noWord(b)) {
            return BAD;
        }
        return words[a].line.isMissing() || words[b].line.isMissing() ? found(NOTHING) : 0;
    }

    // What is not refused has been chosen by several.
    private int refuseSet(int set, int r) {
        if (noRow(r) || set < 1 || set >= 1 << WORDS || Integer.bitCount(set) > SEVERAL_MOST) {
            return BAD;
        }
        several.begin();
        for (int w = 0; w < WORDS; w++) {
            if ((set >> w & 1) == 0) {
                continue;
            }
            if (words[w].line.isMissing()) {
                return found(NOTHING);
            }
            several.choose(words[w].line);
        }
        return several.states() > STATES_MOST ? SPENT : 0;
    }

    // ---- counts and fractions

    private static int countThere(Line[] lines) {
        int n = 0;
        for (int i = 0; i < lines.length; i++) {
            n += lines[i].isMissing() ? 0 : 1;
        }
        return n;
    }

    private int countWords(int lowestSort) {
        int n = 0;
        for (int w = 0; w < WORDS; w++) {
            n += !words[w].line.isMissing() && words[w].sort >= lowestSort ? 1 : 0;
        }
        return n;
    }

    private int countLetters() {
        int n = 0;
        for (int w = 0; w < WORDS; w++) {
            n += Math.max(words[w].line.len, 0);
        }
        return n;
    }

    private void tellFraction(long above, long below) {
        long shared = commonDivisor(below, above);
        if (shared < 1) {
            return;
        }
        lastUpper = above / shared;
        lastLower = below / shared;
    }

    private static long commonDivisor(long a, long b) {
        // Euclid's way ends within 92 steps on longs.
        for (int step = 0; step < 100 && b != 0; step++) {
            long rest = a % b;
            a = b;
            b = rest;
        }
        return a;
    }

    private static long choose(int n, int taken) {
        long ways = 1;
        for (int i = 0; i < taken; i++) {
            ways = ways * (n - i) / (i + 1);
        }
        return ways;
    }

    private static long power(int base, int n) {
        long p = 1;
        for (int i = 0; i < n; i++) {
            p *= base;
        }
        return p;
    }

    // Stops early: 4 to the power of 32 would wrap around to 0.
    private static boolean isPowerAbove(int base, int n, int most) {
        long p = 1;
        for (int i = 0; i < n && p <= most; i++) {
            p *= base;
        }
        return p > most;
    }

    // A row of numbers: a ROW, a TEXT or the LETTERS of a WORD.
    static final class Line {
        final int[] v;
        int len = MISSING;

        Line(int most) {
            v = new int[most];
        }

        boolean isMissing() {
            return len < 0;
        }

        boolean has(int i) {
            return i >= 0 && i < len;
        }

        // len - n cannot overflow where i + n could.
        boolean reaches(int i, int n) {
            return i >= 0 && i <= len - n;
        }

        boolean isBelow(int limit) {
            for (int i = 0; i < len; i++) {
                if (v[i] < 0 || v[i] >= limit) {
                    return false;
                }
            }
            return true;
        }

        void begin(int n, int all) {
            for (int i = 0; i < n; i++) {
                v[i] = all;
            }
            len = n;
        }

        int take(int[] from, int n) {
            System.arraycopy(from, 0, v, 0, n);
            len = n;
            return n;
        }

        long mixInto(long h) {
            long mixed = 31 * h + len;
            for (int i = 0; i < len; i++) {
                mixed = 31 * mixed + v[i];
            }
            return mixed;
        }
    }

    static final class Word {
        final Line line = new Line(ROW_MOST);
        int sort;
        private int source;
        private int told;

        int become(int[] from, int n, int newSort, int newSource, int newTold) {
            sort = newSort;
            source = newSource;
            told = newTold;
            return line.take(from, n);
        }

        boolean is(int asSort) {
            return sort == asSort || asSort == MADE && sort > MADE;
        }

        int markOf(int asSort) {
            return asSort == MADE ? source : told;
        }
    }

    // Reads the TEXT of a WORD.
    static final class Spelling {
        private static final int DEEPEST = 4;
        final int[] spelled = new int[ROW_MOST];
        // The true length, though only its first 40 letters are kept.
        int len;
        private final int[] openedAt = new int[DEEPEST];
        private int depth;
        // Where the item begins that a figure would repeat here; -1: a figure cannot stand here.
        private int lastItem;

        int read(Line text, int alphabet) {
            len = 0;
            depth = 0;
            lastItem = -1;
            for (int i = behindBlanks(text, 0); i < text.len; i++) {
                if (text.v[i] == BLANK && depth == 0) {
                    int end = behindBlanks(text, i);
                    return end == text.len ? NONE : end;
                }
                if (!goesOn(text.v[i], alphabet)) {
                    return i;
                }
            }
            return depth == 0 ? NONE : text.len;
        }

        private static int behindBlanks(Line text, int from) {
            int i = from;
            while (i < text.len && text.v[i] == BLANK) {
                i++;
            }
            return i;
        }

        private boolean goesOn(int sign, int alphabet) {
            if (sign >= 'a' && sign < 'a' + alphabet) {
                return addLetter(sign - 'a');
            }
            if (sign == '(') {
                return open();
            }
            if (sign == ')') {
                return close();
            }
            return sign >= '1' && sign <= '9' && repeat(sign - '0');
        }

        private boolean addLetter(int x) {
            lastItem = len;
            if (len < ROW_MOST) {
                spelled[len] = x;
            }
            len++;
            return true;
        }

        private boolean open() {
            if (depth >= DEEPEST) {
                return false;
            }
            openedAt[depth] = len;
            depth++;
            lastItem = -1;
            return true;
        }

        private boolean close() {
            // Every item adds a letter, so a bracket without growth holds none.
            if (depth == 0 || openedAt[depth - 1] == len) {
                return false;
            }
            depth--;
            lastItem = openedAt[depth];
            return true;
        }

        private boolean repeat(int times) {
            if (lastItem < 0) {
                return false;
            }
            int piece = len - lastItem;
            int end = lastItem + piece * times;
            for (int i = len; i < end && i < ROW_MOST; i++) {
                spelled[i] = spelled[i - piece];
            }
            len = end;
            lastItem = -1;
            return true;
        }
    }

    // By which WAYS a word stands in another.
    static final class Standing {
        final int[] earliest = new int[ROW_MOST];
        final int[] latest = new int[ROW_MOST];
        private final long[] waysOf = new long[SIDE];
        private final int[] goneFor = new int[SIDE];

        long countWays(Line w, Line v) {
            waysOf[0] = 1;
            for (int j = 1; j <= v.len; j++) {
                waysOf[j] = 0;
            }
            for (int i = 0; i < w.len; i++) {
                for (int j = v.len; j > 0; j--) {
                    if (w.v[i] == v.v[j - 1]) {
                        waysOf[j] += waysOf[j - 1];
                    }
                }
            }
            return waysOf[v.len];
        }

        // The first and the last WAY; false: there is none.
        boolean readBounds(Line w, Line v) {
            int j = 0;
            for (int i = 0; i < w.len && j < v.len; i++) {
                if (w.v[i] == v.v[j]) {
                    earliest[j] = i;
                    j++;
                }
            }
            if (j < v.len) {
                return false;
            }
            for (int i = w.len - 1; i >= 0 && j > 0; i--) {
                if (w.v[i] == v.v[j - 1]) {
                    j--;
                    latest[j] = i;
                }
            }
            return true;
        }

        // A letter may stand at any like place between its earliest and its latest one.
        long someWay(Line w, Line v) {
            long taken = 0;
            for (int j = 0; j < v.len; j++) {
                for (int i = earliest[j]; i <= latest[j]; i++) {
                    if (w.v[i] == v.v[j]) {
                        taken |= 1L << i;
                    }
                }
            }
            return taken;
        }

        // A place that serves two letters in two WAYS is left out by the one that begins as one WAY
        // and ends as the other, so every WAY needs it for the same letter.
        long everyWay(int n) {
            long taken = 0;
            for (int j = 0; j < n; j++) {
                if (earliest[j] == latest[j]) {
                    taken |= 1L << earliest[j];
                }
            }
            return taken;
        }

        static boolean isWay(Line w, Line v, Line row) {
            if (row.len != v.len) {
                return false;
            }
            int before = -1;
            for (int j = 0; j < v.len; j++) {
                int i = row.v[j];
                if (i <= before || !w.has(i) || w.v[i] != v.v[j]) {
                    return false;
                }
                before = i;
            }
            return true;
        }

        // goneFor[j]: the fewest letters gone, if just j letters of v have been met so far.
        int fewestToBar(Line w, Line v) {
            int never = w.len + 1;
            goneFor[0] = 0;
            for (int j = 1; j < v.len; j++) {
                goneFor[j] = never;
            }
            for (int i = 0; i < w.len; i++) {
                for (int j = v.len - 1; j >= 0; j--) {
                    if (w.v[i] == v.v[j]) {
                        goneFor[j + 1] = Math.min(goneFor[j + 1], goneFor[j]);
                        goneFor[j]++;
                    }
                }
            }
            int fewest = never;
            for (int j = 0; j < v.len; j++) {
                fewest = Math.min(fewest, goneFor[j]);
            }
            return fewest;
        }
    }

    // Where reading a word goes, letter by letter, each taken as early as can be.
    static final class Steps {
        private final int[] next = new int[SIDE * LETTERS_MOST];

        void read(Line w) {
            int end = w.len * LETTERS_MOST;
            for (int c = 0; c < LETTERS_MOST; c++) {
                next[end + c] = 0;
            }
            for (int i = w.len - 1; i >= 0; i--) {
                int here = i * LETTERS_MOST;
                System.arraycopy(next, here + LETTERS_MOST, next, here, LETTERS_MOST);
                next[here + w.v[i]] = i + 1;
            }
        }

        // The place behind the first c that stands at i or later; 0: there is none.
        int behind(int i, int c) {
            return next[i * LETTERS_MOST + c];
        }
    }

    // INNER words, counted by where one has read to and by length.
    static final class InnerWords {
        private final Steps steps = new Steps();
        private final long[] counts;
        private int lettersRead;

        InnerWords(long[] square) {
            counts = square;
        }

        void read(Line w) {
            steps.read(w);
            lettersRead = w.len;
            int end = w.len * SIDE;
            counts[end] = 1;
            for (int n = 1; n < SIDE; n++) {
                counts[end + n] = 0;
            }
            for (int i = w.len - 1; i >= 0; i--) {
                readPlace(i * SIDE, steps.behind(i + 1, w.v[i]));
            }
        }

        // Words that begin with this letter would be counted again where it stands again.
        private void readPlace(int here, int again) {
            counts[here] = 1;
            for (int n = 1; n < SIDE; n++) {
                long twice = again == 0 ? 0 : counts[again * SIDE + n - 1];
                counts[here + n] = counts[here + SIDE + n] + counts[here + SIDE + n - 1] - twice;
            }
        }

        long ofLength(int n) {
            return counts[n];
        }

        long ofAnyLength() {
            long all = 0;
            for (int n = 0; n <= lettersRead; n++) {
                all += counts[n];
            }
            return all;
        }

        // How many INNER words of its length are ahead of v; -1: it is none of them.
        long ahead(Line v) {
            long before = 0;
            int i = 0;
            for (int j = 0; j < v.len; j++) {
                for (int c = 0; c < v.v[j]; c++) {
                    before += countBegun(i, c, v.len - 1 - j);
                }
                i = steps.behind(i, v.v[j]);
                if (i == 0) {
                    return -1;
                }
            }
            return before;
        }

        // The rank must be one of those of this length.
        void pick(int n, int rank, int[] out) {
            long left = rank;
            int i = 0;
            for (int j = 0; j < n; j++) {
                int c = 0;
                long begun = countBegun(i, c, n - 1 - j);
                while (c < LETTERS_MOST - 1 && left >= begun) {
                    left -= begun;
                    c++;
                    begun = countBegun(i, c, n - 1 - j);
                }
                out[j] = c;
                i = steps.behind(i, c);
            }
        }

        private long countBegun(int i, int c, int more) {
            int behind = steps.behind(i, c);
            return behind == 0 ? 0 : counts[behind * SIDE + more];
        }
    }

    // ARCHES of a word and the shortest words ABSENT from it.
    static final class Arches {
        int closed;
        int rest;
        private int restLetters;
        // Of what stands behind each place: how long the shortest absent words are, and how many.
        final int[] shortest = new int[SIDE];
        final long[] howMany = new long[SIDE];
        private final Steps steps = new Steps();

        void read(Line w, int alphabet) {
            int all = (1 << alphabet) - 1;
            int seen = 0;
            closed = 0;
            rest = 0;
            for (int i = 0; i < w.len; i++) {
                seen |= 1 << w.v[i];
                rest++;
                if (seen == all) {
                    closed++;
                    rest = 0;
                    seen = 0;
                }
            }
            restLetters = Integer.bitCount(seen);
        }

        int toClose(int d, int alphabet) {
            return d <= closed ? 0 : (d - closed) * alphabet - restLetters;
        }

        void readAbsent(Line w, int alphabet) {
            steps.read(w);
            for (int i = w.len; i >= 0; i--) {
                int least = ROW_MOST + 2;
                long ofLeast = 0;
                for (int c = 0; c < alphabet; c++) {
                    int n = absentFrom(i, c);
                    int behind = steps.behind(i, c);
                    long words = behind == 0 ? 1 : howMany[behind];
                    if (n < least) {
                        least = n;
                        ofLeast = words;
                    } else if (n == least) {
                        ofLeast += words;
                    }
                }
                shortest[i] = least;
                howMany[i] = ofLeast;
            }
        }

        // How long the shortest absent words are that begin with c.
        private int absentFrom(int i, int c) {
            int behind = steps.behind(i, c);
            return behind == 0 ? 1 : 1 + shortest[behind];
        }

        // The first of the shortest absent words, 40 letters of it at most: how many came.
        int firstAbsent(int alphabet, int[] out) {
            int n = Math.min(shortest[0], ROW_MOST);
            int i = 0;
            for (int j = 0; j < n; j++) {
                int c = 0;
                while (c < alphabet - 1 && absentFrom(i, c) != shortest[i]) {
                    c++;
                }
                out[j] = c;
                i = steps.behind(i, c);
            }
            return n;
        }
    }

    // Two words read side by side.
    static final class Pair {
        private final Steps inFirst = new Steps();
        private final Steps inSecond = new Steps();
        private final long[] table;

        Pair(long[] square) {
            table = square;
        }

        // How long the shortest word is that stands in just one of them; 0: both are the same.
        int measureParting(Line a, Line b) {
            inFirst.read(a);
            inSecond.read(b);
            for (int i = a.len; i >= 0; i--) {
                for (int j = b.len; j >= 0; j--) {
                    if (isReached(a, i, b, j)) {
                        table[i * SIDE + j] = shortestParting(i, j);
                    }
                }
            }
            return (int) table[0];
        }

        // Reading stops behind the same letter in both.
        private static boolean isReached(Line a, int i, Line b, int j) {
            if (i == 0 || j == 0) {
                return i == j;
            }
            return a.v[i - 1] == b.v[j - 1];
        }

        private long shortestParting(int i, int j) {
            long least = 0;
            for (int c = 0; c < LETTERS_MOST; c++) {
                long n = partingFrom(i, j, c);
                if (n > 0 && (least == 0 || n < least)) {
                    least = n;
                }
            }
            return least;
        }

        // How long the shortest one is that begins with c; 0: there is none.
        private long partingFrom(int i, int j, int c) {
            int first = inFirst.behind(i, c);
            int second = inSecond.behind(j, c);
            if (first == 0 || second == 0) {
                return first == second ? 0 : 1;
            }
            long more = table[first * SIDE + second];
            return more == 0 ? 0 : more + 1;
        }

        // n: how long it is, as measured.
        void firstParting(int n, int[] out) {
            int i = 0;
            int j = 0;
            for (int t = 0; t < n; t++) {
                int c = 0;
                while (c < LETTERS_MOST - 1 && partingFrom(i, j, c) != n - t) {
                    c++;
                }
                out[t] = c;
                i = inFirst.behind(i, c);
                j = inSecond.behind(j, c);
            }
        }

        long countShared(Line a, Line b) {
            inFirst.read(a);
            inSecond.read(b);
            for (int i = a.len; i >= 0; i--) {
                for (int j = b.len; j >= 0; j--) {
                    if (isReached(a, i, b, j)) {
                        table[i * SIDE + j] = sharedFrom(i, j);
                    }
                }
            }
            return table[0];
        }

        private long sharedFrom(int i, int j) {
            long n = 1;
            for (int c = 0; c < LETTERS_MOST; c++) {
                int first = inFirst.behind(i, c);
                int second = inSecond.behind(j, c);
                if (first != 0 && second != 0) {
                    n += table[first * SIDE + second];
                }
            }
            return n;
        }
    }

    // DROPPED words. By Simon's lemma u x v and u v are alike to a depth, if u and u x are to one part
    // of it and v and x v to the other part: so one pass over the word is enough.
    static final class Dropping {
        // How deep a kept letter could have been left out, seen from ahead; and each, seen from behind.
        private final int[] depthAhead = new int[ROW_MOST];
        private final int[] depthBehind = new int[ROW_MOST];

        // What is kept comes to out: how many.
        int keep(Line w, int d, int[] out) {
            for (int i = w.len - 1; i >= 0; i--) {
                depthBehind[i] = lookBehind(w, i);
            }
            int kept = 0;
            for (int i = 0; i < w.len; i++) {
                int ahead = lookAhead(out, kept, w.v[i]);
                if (ahead + depthBehind[i] < d) {
                    out[kept] = w.v[i];
                    depthAhead[kept] = ahead;
                    kept++;
                }
            }
            return kept;
        }

        // A word that the letter alone lets in begins with it, and goes on with one that stands
        // behind it, but not behind where the letter stands next.
        private int lookBehind(Line w, int i) {
            int least = ROW_MOST;
            for (int j = i + 1; j < w.len; j++) {
                least = Math.min(least, depthBehind[j] + 1);
                if (w.v[j] == w.v[i]) {
                    return least;
                }
            }
            return 0;
        }

        private int lookAhead(int[] out, int kept, int x) {
            int least = ROW_MOST;
            for (int j = kept - 1; j >= 0; j--) {
                least = Math.min(least, depthAhead[j] + 1);
                if (out[j] == x) {
                    return least;
                }
            }
            return 0;
        }
    }

    // Several words read side by side: a state is a place in each of them.
    static final class Several {
        private final Line[] chosen = new Line[SEVERAL_MOST];
        private final int[] stride = new int[SEVERAL_MOST];
        private final int[] place = new int[SEVERAL_MOST];
        private final int[] stepBy = new int[LETTERS_MOST];
        // Made by the first call that needs it: most objects never do.
        private int[] table;
        private int n;
        private int states;

        void begin() {
            n = 0;
            states = 1;
        }

        void choose(Line line) {
            chosen[n] = line;
            stride[n] = states;
            states *= line.len + 1;
            n++;
        }

        int states() {
            return states;
        }

        // The first of the longest words that stand in all comes to out: how long.
        int longestCommon(int[] out) {
            goToEnd();
            for (int state = states - 1; state >= 0; state--) {
                table[state] = commonFrom(state);
                stepBack();
            }
            goToBeginning();
            int longest = table[0];
            for (int t = 0; t < longest; t++) {
                out[t] = commonLetter(longest - 1 - t);
            }
            return longest;
        }

        private int commonFrom(int state) {
            int most = 0;
            int together = state;
            boolean same = true;
            for (int s = 0; s < n; s++) {
                if (place[s] == chosen[s].len) {
                    return 0;
                }
                most = Math.max(most, table[state + stride[s]]);
                together += stride[s];
                same = same && head(s) == head(0);
            }
            return same ? 1 + table[together] : most;
        }

        // Goes behind the first letter with which as many can still follow, and tells it.
        private int commonLetter(int follow) {
            int c = 0;
            while (c < LETTERS_MOST - 1 && !leads(c, follow)) {
                c++;
            }
            for (int s = 0; s < n; s++) {
                place[s] = behindNext(s, c);
            }
            return c;
        }

        // The place behind the next c in one of the words; 0: there is none.
        private int behindNext(int s, int c) {
            for (int i = place[s]; i < chosen[s].len; i++) {
                if (chosen[s].v[i] == c) {
                    return i + 1;
                }
            }
            return 0;
        }

        private boolean leads(int c, int follow) {
            int state = 0;
            for (int s = 0; s < n; s++) {
                int behind = behindNext(s, c);
                if (behind == 0) {
                    return false;
                }
                state += behind * stride[s];
            }
            return table[state] == follow;
        }

        // The first of the shortest words in which all stand, 40 letters of it at most, comes to out:
        // how long it is.
        int shortestCover(int[] out) {
            goToEnd();
            for (int state = states - 1; state >= 0; state--) {
                table[state] = coverFrom(state);
                stepBack();
            }
            goToBeginning();
            int shortest = table[0];
            int state = 0;
            for (int t = 0; t < shortest && t < ROW_MOST; t++) {
                readHeads();
                int c = 0;
                while (c < LETTERS_MOST - 1 && !coversBy(state, c)) {
                    c++;
                }
                out[t] = c;
                state += stepBy[c];
                goBehind(c);
            }
            return shortest;
        }

        private boolean coversBy(int state, int c) {
            return stepBy[c] > 0 && table[state + stepBy[c]] == table[state] - 1;
        }

        private int coverFrom(int state) {
            readHeads();
            int least = 0;
            for (int s = 0; s < n; s++) {
                if (place[s] < chosen[s].len) {
                    int more = 1 + table[state + stepBy[head(s)]];
                    least = least == 0 ? more : Math.min(least, more);
                }
            }
            return least;
        }

        // stepBy[c]: how far the state goes, if all words that go on with c do so.
        private void readHeads() {
            for (int c = 0; c < LETTERS_MOST; c++) {
                stepBy[c] = 0;
            }
            for (int s = 0; s < n; s++) {
                if (place[s] < chosen[s].len) {
                    stepBy[head(s)] += stride[s];
                }
            }
        }

        private void goBehind(int c) {
            for (int s = 0; s < n; s++) {
                if (place[s] < chosen[s].len && head(s) == c) {
                    place[s]++;
                }
            }
        }

        private int head(int s) {
            return chosen[s].v[place[s]];
        }

        private void goToEnd() {
            if (table == null) {
                table = new int[STATES_MOST];
            }
            for (int s = 0; s < n; s++) {
                place[s] = chosen[s].len;
            }
        }

        private void goToBeginning() {
            for (int s = 0; s < n; s++) {
                place[s] = 0;
            }
        }

        private void stepBack() {
            for (int s = 0; s < n; s++) {
                if (place[s] > 0) {
                    place[s]--;
                    return;
                }
                place[s] = chosen[s].len;
            }
        }
    }

    // TWINS, grown letter by letter: WAYS only become more, so a word is given up once it has too many.
    static final class Twins {
        final int[] first = new int[ROW_MOST];
        private final int[] grown = new int[ROW_MOST];
        private final int[] ones = new int[LETTERS_MOST];
        private final int[] twos = new int[LETTERS_MOST * LETTERS_MOST];
        private final int[] threes = new int[LETTERS_MOST * LETTERS_MOST * LETTERS_MOST];
        private final int[] due = new int[LETTERS_MOST * LETTERS_MOST * LETTERS_MOST];
        private int alphabet;
        private int length;
        private int depth;
        private int twinsMet;

        int search(Line w, int letters, int d) {
            alphabet = letters;
            length = w.len;
            depth = d;
            twinsMet = 0;
            for (int i = 0; i < w.len; i++) {
                addLetter(w.v[i]);
            }
            int[] counts = countsOfDepth();
            System.arraycopy(counts, 0, due, 0, counts.length);
            for (int i = w.len - 1; i >= 0; i--) {
                takeLetter(w.v[i]);
            }
            grow(0);
            return twinsMet;
        }

        private int[] countsOfDepth() {
            if (depth == 1) {
                return ones;
            }
            return depth == 2 ? twos : threes;
        }

        // All words of one size have as many WAYS in all, so one that is whole and has
        // nowhere too many has nowhere too few.
        private void grow(int at) {
            if (at >= length) {
                keepTwin();
                return;
            }
            for (int x = 0; x < alphabet; x++) {
                grown[at] = x;
                addLetter(x);
                if (!hasTooMany(x)) {
                    grow(at + 1);
                }
                takeLetter(x);
            }
        }

        private void keepTwin() {
            if (twinsMet == 0) {
                System.arraycopy(grown, 0, first, 0, length);
            }
            twinsMet++;
        }

        private void addLetter(int x) {
            if (depth > 2) {
                for (int p = 0; p < alphabet * alphabet; p++) {
                    threes[p * alphabet + x] += twos[p];
                }
            }
            for (int p = 0; p < alphabet; p++) {
                twos[p * alphabet + x] += ones[p];
            }
            ones[x]++;
        }

        private void takeLetter(int x) {
            ones[x]--;
            for (int p = 0; p < alphabet; p++) {
                twos[p * alphabet + x] -= ones[p];
            }
            if (depth > 2) {
                for (int p = 0; p < alphabet * alphabet; p++) {
                    threes[p * alphabet + x] -= twos[p];
                }
            }
        }

        private boolean hasTooMany(int x) {
            int[] counts = countsOfDepth();
            int beginnings = 1;
            for (int i = 1; i < depth; i++) {
                beginnings *= alphabet;
            }
            for (int p = 0; p < beginnings; p++) {
                if (counts[p * alphabet + x] > due[p * alphabet + x]) {
                    return true;
                }
            }
            return false;
        }
    }
}
