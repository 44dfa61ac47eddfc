import java.util.Random;

/** Random runs of all calls on a new object each, beside the model; the seeds are fixed. */
final class RandomRunsTest {
    private static final int RUNS = 2500;
    private static final int CALLS = 55;
    private static final int SMALL = 9;
    private static final int[] ODD = {Integer.MIN_VALUE, -9, -1, 4, 6, 8, 41, 61, Integer.MAX_VALUE};

    private final Random random;
    private final WithinWords x = new WithinWords();
    private final Model m = new Model();
    private final StringBuilder told = new StringBuilder();

    private RandomRunsTest(long seed) {
        random = new Random(seed);
    }

    public static void main(String[] args) {
        for (long seed = 0; seed < RUNS && Check.wrongSoFar() == 0; seed++) {
            new RandomRunsTest(seed).run(seed);
        }
        Check.end();
    }

    private void run(long seed) {
        int k = 1 + random.nextInt(6);
        compare("letters(" + k + ")", x.letters(k), m.letters(k));
        for (int i = 0; i < 6; i++) {
            makeWord(random.nextInt(8));
        }
        for (int i = 0; i < CALLS && Check.wrongSoFar() == 0; i++) {
            call(random.nextInt(47));
            compareTold();
        }
        compare("digest()", x.digest(), m.digest());
        if (Check.wrongSoFar() != 0) {
            System.out.println("seed " + seed + ":" + told);
        }
    }

    private void compare(String call, long got, long want) {
        told.append("\n  ").append(call).append(" -> ").append(got);
        Check.due(call, got, want);
    }

    private void compareTold() {
        Check.due("asked()", x.asked(), m.asked);
        Check.due("many()", x.many(), m.many);
        Check.due("upper()", x.upper(), m.upper.longValueExact());
        Check.due("lower()", x.lower(), m.lower.longValueExact());
        Check.due("finding()", x.finding(), m.finding);
    }

    private int pick(int limit) {
        return random.nextInt(40) == 0 ? ODD[random.nextInt(ODD.length)] : random.nextInt(limit);
    }

    private int row() {
        return pick(6);
    }

    private int word() {
        return pick(8);
    }

    private int place() {
        return random.nextInt(20) == 0 ? ODD[random.nextInt(ODD.length)] : random.nextInt(SMALL + 1);
    }

    private int depth() {
        return random.nextInt(12) == 0 ? ODD[random.nextInt(ODD.length)] : random.nextInt(6);
    }

    private void makeWord(int w) {
        int n = random.nextInt(SMALL);
        int r = random.nextInt(6);
        compare("row(" + r + ", " + n + ")", x.row(r, n), m.row(r, n));
        int few = 1 + random.nextInt(m.k);
        for (int i = 0; i < n; i++) {
            int v = random.nextInt(few);
            compare("lay(" + r + ", " + i + ", " + v + ")", x.lay(r, i, v), m.lay(r, i, v));
        }
        compare("word(" + w + ", " + r + ")", x.word(w, r), m.word(w, r));
    }

    private void makeText(int t) {
        String signs = "aabbbccdf()()()1239  0z\u00e9";
        int n = random.nextInt(9);
        compare("text(" + t + ", " + n + ")", x.text(t, n), m.text(t, n));
        for (int i = 0; i < n; i++) {
            int v = signs.charAt(random.nextInt(signs.length())) + (random.nextInt(9) == 0 ? 256 : 0);
            compare("put(" + t + ", " + i + ", " + v + ")", x.put(t, i, v), m.put(t, i, v));
        }
    }

    private static boolean isThere(Model m, int w) {
        return w >= 0 && w < 8 && m.words[w] != null;
    }

    /** The model tries all choices of places, so words stay small. */
    private boolean growsTooMuch(int a, int b) {
        return isThere(m, a) && isThere(m, b) && m.words[a].length() + m.words[b].length() > SMALL + 1;
    }

    private void call(int which) {
        if (which < 22) {
            callFirst(which);
        } else if (which < 33) {
            callSecond(which);
        } else {
            callThird(which);
        }
    }

    private void callFirst(int which) {
        int r = row();
        int w = word();
        int a = word();
        int b = word();
        int i = place();
        int n = place();
        int t = pick(4);
        switch (which) {
            case 0 -> compare("row(" + r + ", " + n + ")", x.row(r, n), m.row(r, n));
            case 1 -> {
                int v = random.nextInt(9) == 0 ? random.nextInt() : random.nextInt(8);
                compare("lay(" + r + ", " + i + ", " + v + ")", x.lay(r, i, v), m.lay(r, i, v));
            }
            case 2 -> compare("at(" + r + ", " + i + ")", x.at(r, i), m.at(r, i));
            case 3 -> compare("tear(" + r + ")", x.tear(r), m.tear(r));
            case 4 -> {
                int to = row();
                int j = place();
                compare("copy(" + r + ", " + i + ", " + to + ", " + j + ", " + n + ")",
                        x.copy(r, i, to, j, n), m.copy(r, i, to, j, n));
            }
            case 5 -> compare("mean(" + r + ")", x.mean(r), m.mean(r));
            case 6 -> compare("text(" + t + ", " + n + ")", x.text(t, n), m.text(t, n));
            case 7 -> {
                int v = random.nextInt();
                compare("put(" + t + ", " + i + ", " + v + ")", x.put(t, i, v), m.put(t, i, v));
            }
            case 8 -> compare("letters(" + n + ")", x.letters(n), m.letters(n));
            case 9 -> {
                if (r < 0 || r > 5 || m.rows[r] == null || m.rows[r].length <= SMALL + 1) {
                    compare("word(" + w + ", " + r + ")", x.word(w, r), m.word(w, r));
                }
            }
            case 10 -> {
                makeText(random.nextInt(4));
                compare("fault(" + t + ")", x.fault(t), m.fault(t));
            }
            case 11 -> {
                int got = x.tell(w, t);
                compare("tell(" + w + ", " + t + ")", got, m.tell(w, t));
                if (got > SMALL + 1) {
                    compare("erase(" + w + ")", x.erase(w), m.erase(w));
                }
            }
            case 12 -> {
                if (!growsTooMuch(a, b)) {
                    compare("join(" + w + ", " + a + ", " + b + ")", x.join(w, a, b), m.join(w, a, b));
                }
            }
            case 13 -> compare("part(" + w + ", " + a + ", " + i + ", " + n + ")",
                    x.part(w, a, i, n), m.part(w, a, i, n));
            case 14 -> {
                int how = pick(2);
                compare("turn(" + w + ", " + a + ", " + how + ")", x.turn(w, a, how), m.turn(w, a, how));
            }
            case 15 -> {
                int d = depth();
                compare("drop(" + w + ", " + a + ", " + d + ")", x.drop(w, a, d), m.drop(w, a, d));
            }
            case 16 -> compare("erase(" + w + ")", x.erase(w), m.erase(w));
            case 17 -> compare("size(" + w + ")", x.size(w), m.size(w));
            case 18 -> compare("letter(" + w + ", " + i + ")", x.letter(w, i), m.letter(w, i));
            case 19 -> compare("kind(" + w + ")", x.kind(w), m.kind(w));
            case 20 -> {
                int kind = pick(5);
                compare("mark(" + w + ", " + kind + ")", x.mark(w, kind), m.mark(w, kind));
            }
            default -> makeWord(random.nextInt(8));
        }
    }

    private void callSecond(int which) {
        int r = row();
        int w = word();
        int v = word();
        int n = depth();
        boolean flag = random.nextBoolean();
        switch (which) {
            case 22 -> compare("ways(" + w + ", " + v + ")", x.ways(w, v), m.ways(w, v));
            case 23 -> compare("way(" + w + ", " + v + ", " + r + ", " + flag + ")",
                    x.way(w, v, r, flag), m.way(w, v, r, flag));
            case 24 -> compare("places(" + w + ", " + v + ", " + flag + ")",
                    x.places(w, v, flag), m.places(w, v, flag));
            case 25 -> compare("judge(" + w + ", " + v + ", " + r + ")", x.judge(w, v, r), m.judge(w, v, r));
            case 26 -> compare("bar(" + w + ", " + v + ")", x.bar(w, v), m.bar(w, v));
            case 27 -> {
                int length = random.nextInt(4) == 0 ? -9 : n;
                compare("inner(" + w + ", " + length + ")", x.inner(w, length), m.inner(w, length));
            }
            case 28 -> compare("rank(" + w + ", " + v + ")", x.rank(w, v), m.rank(w, v));
            case 29 -> {
                int rank = random.nextInt(9) == 0 ? ODD[random.nextInt(ODD.length)] : random.nextInt(12);
                compare("byRank(" + w + ", " + n + ", " + rank + ", " + r + ")",
                        x.byRank(w, n, rank, r), m.byRank(w, n, rank, r));
            }
            case 30 -> compare("arches(" + w + ")", x.arches(w), m.arches(w));
            case 31 -> compare("absent(" + w + ", " + r + ")", x.absent(w, r), m.absent(w, r));
            default -> compare("added(" + w + ", " + n + ")", x.added(w, n), m.added(w, n));
        }
    }

    private void callThird(int which) {
        int r = row();
        int a = word();
        int b = word();
        int n = depth();
        int set = random.nextInt(9) == 0 ? random.nextInt(300) - 20
                : 1 << random.nextInt(8) | 1 << random.nextInt(8) | 1 << random.nextInt(8);
        switch (which) {
            case 33, 34 -> compare("alike(" + a + ", " + b + ", " + n + ")", x.alike(a, b, n), m.alike(a, b, n));
            case 35, 36 -> compare("parting(" + a + ", " + b + ", " + r + ")", x.parting(a, b, r), m.parting(a, b, r));
            case 37, 38 -> compare("common(" + set + ", " + r + ")", x.common(set, r), m.common(set, r));
            case 39, 40 -> compare("cover(" + set + ", " + r + ")", x.cover(set, r), m.cover(set, r));
            case 41 -> compare("both(" + a + ", " + b + ")", x.both(a, b), m.both(a, b));
            case 42 -> {
                if (random.nextInt(4) == 0) {
                    int d = pick(4);
                    compare("twins(" + a + ", " + d + ", " + r + ")", x.twins(a, d, r), m.twins(a, d, r));
                }
            }
            case 43 -> compare("odds(" + a + ", " + b + ")", x.odds(a, b), m.odds(a, b));
            case 44 -> {
                int length = pick(21);
                compare("byChance(" + a + ", " + length + ")", x.byChance(a, length), m.byChance(a, length));
            }
            case 45 -> compare("count(" + n + ")", x.count(n), m.count(n));
            default -> compare("findings(" + n + ")", x.findings(n), m.findings(n));
        }
    }
}
