/** Promises 42 to 49: what is told. */
final class ToldTest {
    public static void main(String[] args) {
        before();
        askedPromise();
        manyPromise();
        fractionPromises();
        countPromise();
        findingPromises();
        digestPromise();
        Check.end();
    }

    private static void before() {
        WithinWords x = new WithinWords();
        Check.due("42: asked()", x.asked(), 0);
        Check.due("43: many()", x.many(), 0);
        Check.due("44: upper()", x.upper(), 0);
        Check.due("45: lower()", x.lower(), 1);
        Check.due("47: finding()", x.finding(), 0);
        for (int f = 1; f <= 5; f++) {
            Check.due("48: findings(" + f + ")", x.findings(f), 0);
        }
    }

    private static void askedPromise() {
        WithinWords x = Play.with(3, "abcab");
        Play.row(x, 0, 7, 9, 12);
        x.at(0, 0);
        Check.due("42: by at()", x.asked(), 7);
        x.lay(0, 0, 8);
        Check.due("42: by lay()", x.asked(), 7);
        x.mean(0);
        Check.due("42: by mean()", x.asked(), 9);
        x.arches(0);
        Check.due("42: by arches()", x.asked(), 2);
        x.at(0, 9);
        x.lay(6, 0, 0);
        x.mean(3);
        x.arches(5);
        x.copy(0, 0, 0, 1, 1);
        x.inner(0, 1);
        x.absent(0, 4);
        x.added(0, 3);
        Check.due("42: refused ones, others tell nothing", x.asked(), 2);
    }

    private static void manyPromise() {
        WithinWords x = Play.with(3, "abcab", "ab", "ccc");
        x.ways(0, 1);
        Check.due("43: by ways()", x.many(), 3);
        x.ways(0, 2);
        Check.due("43: by ways(), none", x.many(), 0);
        x.places(0, 1, false);
        Check.due("43: by places()", x.many(), 0b11011);
        x.inner(0, 2);
        Check.due("43: by inner()", x.many(), 8);
        x.rank(0, 1);
        Check.due("43: by rank()", x.many(), 1);
        x.absent(0, 3);
        Check.due("43: by absent()", x.many(), 1);
        x.both(0, 1);
        Check.due("43: by both()", x.many(), 4);
        x.places(0, 2, false);
        x.rank(0, 2);
        x.ways(0, 7);
        x.inner(0, 41);
        x.absent(7, 0);
        x.both(8, 0);
        x.twins(0, 1, 0);
        x.odds(0, 1);
        x.arches(0);
        Check.due("43: refused ones, NONE, others tell nothing", x.many(), 4);
    }

    private static void fractionPromises() {
        WithinWords x = Play.with(3, "abcab", "ab");
        x.odds(0, 1);
        Check.due("44: upper()", x.upper(), 3);
        Check.due("45: lower()", x.lower(), 10);
        x.byChance(1, 2);
        Check.due("44: upper()", x.upper(), 1);
        Check.due("45: lower()", x.lower(), 9);
        x.byChance(1, 1);
        Check.due("44: upper()", x.upper(), 0);
        Check.due("45: lower()", x.lower(), 1);
    }

    private static void countPromise() {
        WithinWords x = Play.with(4, "abcab", "ab", "", "d");
        x.row(0, 0);
        x.text(0, 0);
        x.text(3, 9);
        x.tell(4, 3);
        x.join(5, 0, 1);
        x.turn(6, 3, 0);
        x.drop(7, 0, 0);
        int[] counts = {4, 2, 2, 8, 3, 5 + 2 + 1 + 7 + 1};
        for (int what = 0; what < counts.length; what++) {
            Check.due("46: count(" + what + ")", x.count(what), counts[what]);
        }
        x.erase(5);
        x.erase(0);
        x.tear(0);
        int[] then = {4, 1, 2, 6, 2, 2 + 1 + 1};
        for (int what = 0; what < then.length; what++) {
            Check.due("46: count(" + what + ")", x.count(what), then[what]);
        }
        Check.due("46: count(6)", x.count(6), WithinWords.BAD);
        Check.due("46: count(-1)", x.count(-1), WithinWords.BAD);
        Check.due("46: no finding", x.finding(), 0);
    }

    private static void findingPromises() {
        WithinWords x = Play.with(3, "abcab", "ab");
        x.row(1, 0);
        x.size(7);
        Check.due("47: NOTHING", x.finding(), 1);
        x.letter(0, 5);
        Check.due("47: BEYOND", x.finding(), 2);
        x.mark(0, 1);
        Check.due("47: UNLIKE", x.finding(), 3);
        x.mean(1);
        Check.due("47: NOUGHT", x.finding(), 4);
        x.row(1, -1);
        Check.due("47: SIZE", x.finding(), 5);
        x.size(9);
        x.letters(1);
        x.size(0);
        Check.due("47: other refusals, answers leave it", x.finding(), 5);
        x.letter(0, -1);
        Check.due("47: BEYOND", x.finding(), 2);
        int[] due = {1, 2, 1, 1, 1};
        for (int f = 1; f <= 5; f++) {
            Check.due("48: findings(" + f + ")", x.findings(f), due[f - 1]);
        }
        Check.due("48: findings(0)", x.findings(0), WithinWords.BAD);
        Check.due("48: findings(6)", x.findings(6), WithinWords.BAD);
        Check.due("48: findings(MIN)", x.findings(Integer.MIN_VALUE), WithinWords.BAD);
    }

    private static long digestOf(int... values) {
        long h = 17;
        for (int v : values) {
            h = 31 * h + v;
        }
        return h;
    }

    private static void digestPromise() {
        WithinWords x = new WithinWords();
        Check.due("49: new", x.digest(), digestOf(3, 0, 0, 0, 0, 0, -1, -1, -1, -1, -1, -1, -1, -1,
                -1, -1, -1, -1, -1, -1, -1, -1, -1, -1));
        Play.row(x, 1, 2, 0);
        x.row(4, 0);
        x.text(0, 0);
        x.text(2, 3);
        x.put(2, 0, 98);
        x.put(2, 1, 50);
        x.word(0, 1);
        x.tell(1, 2);
        x.part(2, 1, 1, 1);
        x.turn(3, 0, 1);
        x.drop(5, 3, 2);
        x.join(7, 5, 4);
        x.put(2, 2, 200);
        x.lay(1, 0, -70000);
        long want = digestOf(3, 2, 2, 5, 3, 9,
                0, 0, 2, 2, 0, 1, 3, 2, 1, 1, 2, 1, 1, 1, 3, 1, 2, 0, 2, -1, 4, 2, 2, 0, 2, -1, -1,
                -1, 2, -70000, 0, -1, -1, 0, -1, 0, -1, 3, 98, 50, -56, -1);
        Check.due("49: one of each KIND", x.digest(), want);
        x.inner(0, 1);
        x.odds(0, 0);
        x.at(1, 1);
        x.size(6);
        Check.due("49: what is told is no part of it", x.digest(), want);
    }
}
