/** Promises 1 to 7: a new object, and rows. */
final class RowsTest {
    public static void main(String[] args) {
        newObject();
        rowPromise();
        layAndAt();
        tearPromise();
        copyPromise();
        meanPromise();
        Check.end();
    }

    private static void newObject() {
        WithinWords x = new WithinWords();
        int[] counts = {3, 0, 0, 0, 0, 0};
        for (int what = 0; what < counts.length; what++) {
            Check.due("1: count(" + what + ")", x.count(what), counts[what]);
        }
        for (int r = 0; r < 6; r++) {
            Check.due("1: at of no row", x.at(r, 0), WithinWords.FINDING);
        }
        for (int t = 0; t < 4; t++) {
            Check.due("1: put of no text", x.put(t, 0, 0), WithinWords.FINDING);
        }
        for (int w = 0; w < 8; w++) {
            Check.due("1: size of no word", x.size(w), WithinWords.FINDING);
        }
        Check.due("1: findings(1)", x.findings(1), 18);
        WithinWords y = new WithinWords();
        Check.due("1: no object knows of another: finding()", y.finding(), 0);
    }

    private static void rowPromise() {
        WithinWords x = new WithinWords();
        Check.due("2: row(0, 40)", x.row(0, 40), 40);
        Check.due("2: lay(0, 39, 7)", x.lay(0, 39, 7), 1);
        Check.due("2: row(0, 40) again", x.row(0, 40), 40);
        x.at(0, 39);
        Check.due("2: a row begins with 0", x.asked(), 0);
        Check.due("2: row(5, 0)", x.row(5, 0), 0);
        Check.due("2: row(0, 41)", x.row(0, 41), WithinWords.BAD);
        Check.due("2: row(6, 1)", x.row(6, 1), WithinWords.BAD);
        Check.due("2: row(-1, 1)", x.row(-1, 1), WithinWords.BAD);
        Check.due("2: BAD is ahead of SIZE", x.row(6, -1), WithinWords.BAD);
        Check.due("2: no finding yet", x.finding(), 0);
        Check.due("2: row(0, -1)", x.row(0, -1), WithinWords.FINDING);
        Check.due("2: SIZE", x.finding(), 5);
        Check.due("2: what is refused leaves the row", x.at(0, 39), 1);
    }

    private static void layAndAt() {
        WithinWords x = new WithinWords();
        Check.due("3: lay of none", x.lay(1, 9, 1), WithinWords.FINDING);
        Check.due("3: NOTHING", x.finding(), 1);
        Play.row(x, 1, 5, -6, Integer.MIN_VALUE);
        Check.due("3: lay(1, 1, 70)", x.lay(1, 1, 70), 1);
        Check.due("3: what it was", x.asked(), -6);
        Check.due("4: at(1, 1)", x.at(1, 1), 1);
        Check.due("4: asked()", x.asked(), 70);
        Check.due("4: at(1, 2)", x.at(1, 2), 1);
        Check.due("4: asked()", x.asked(), Integer.MIN_VALUE);
        Check.due("3: lay(1, 3, 1)", x.lay(1, 3, 1), WithinWords.FINDING);
        Check.due("3: BEYOND", x.finding(), 2);
        Check.due("3: lay(1, -1, 1)", x.lay(1, -1, 1), WithinWords.FINDING);
        Check.due("4: at(1, 3)", x.at(1, 3), WithinWords.FINDING);
        Check.due("4: at(1, MAX)", x.at(1, Integer.MAX_VALUE), WithinWords.FINDING);
        Check.due("3: lay(6, 0, 1)", x.lay(6, 0, 1), WithinWords.BAD);
        Check.due("4: at(-1, 0)", x.at(-1, 0), WithinWords.BAD);
        Check.due("4: at(6, 0)", x.at(6, 0), WithinWords.BAD);
        Check.due("3: findings(2)", x.findings(2), 4);
        Check.due("3: what is refused tells nothing", x.asked(), Integer.MIN_VALUE);
    }

    private static void tearPromise() {
        WithinWords x = new WithinWords();
        x.row(3, 2);
        x.row(4, 2);
        Check.due("5: tear(3)", x.tear(3), 1);
        Check.due("5: it is missing", x.at(3, 0), WithinWords.FINDING);
        Check.due("5: the other is not", x.count(1), 1);
        Check.due("5: tear(3) again", x.tear(3), WithinWords.FINDING);
        Check.due("5: NOTHING", x.findings(1), 2);
        Check.due("5: tear(6)", x.tear(6), WithinWords.BAD);
        Check.due("5: tear(-1)", x.tear(-1), WithinWords.BAD);
    }

    private static void copyPromise() {
        WithinWords x = new WithinWords();
        Play.row(x, 0, 1, 2, 3, 4, 5);
        Play.row(x, 1, 0, 0, 0);
        Check.due("6: copy(0, 2, 1, 1, 2)", x.copy(0, 2, 1, 1, 2), 1);
        Check.due("6: comes to another", Play.readRow(x, 1), "0,3,4");
        Check.due("6: copy(0, 0, 0, 1, 4)", x.copy(0, 0, 0, 1, 4), 1);
        Check.due("6: as if taken ahead", Play.readRow(x, 0), "1,1,2,3,4");
        Check.due("6: copy(0, 1, 0, 0, 4)", x.copy(0, 1, 0, 0, 4), 1);
        Check.due("6: and down", Play.readRow(x, 0), "1,2,3,4,4");
        Check.due("6: none from the end", x.copy(0, 5, 1, 3, 0), 1);
        int beyond = x.findings(2);
        Check.due("6: copy(0, 6, 1, 0, 0)", x.copy(0, 6, 1, 0, 0), WithinWords.FINDING);
        Check.due("6: copy(0, 0, 1, 4, 0)", x.copy(0, 0, 1, 4, 0), WithinWords.FINDING);
        Check.due("6: copy(0, -1, 1, 0, 1)", x.copy(0, -1, 1, 0, 1), WithinWords.FINDING);
        Check.due("6: copy(0, 0, 1, -1, 1)", x.copy(0, 0, 1, -1, 1), WithinWords.FINDING);
        Check.due("6: copy(0, 0, 1, 0, 4)", x.copy(0, 0, 1, 0, 4), WithinWords.FINDING);
        Check.due("6: copy(0, MAX, 1, 0, MAX)",
                x.copy(0, Integer.MAX_VALUE, 1, 0, Integer.MAX_VALUE), WithinWords.FINDING);
        Check.due("6: BEYOND", x.findings(2), beyond + 6);
        Check.due("6: copy(2, 0, 0, 0, 0)", x.copy(2, 0, 0, 9, 0), WithinWords.FINDING);
        Check.due("6: NOTHING ahead of BEYOND", x.finding(), 1);
        Check.due("6: copy(0, 0, 2, 0, 0)", x.copy(0, 0, 2, 0, 0), WithinWords.FINDING);
        Check.due("6: NOTHING", x.findings(1), 2);
        Check.due("6: copy(2, 0, 3, 0, -1)", x.copy(2, 0, 3, 0, -1), WithinWords.FINDING);
        Check.due("6: SIZE ahead of NOTHING", x.finding(), 5);
        Check.due("6: BAD ahead of SIZE", x.copy(6, 0, 0, 0, -1), WithinWords.BAD);
        Check.due("6: BAD", x.copy(0, 0, -1, 0, 0), WithinWords.BAD);
    }

    private static void meanPromise() {
        WithinWords x = new WithinWords();
        Play.row(x, 0, 1, 2, 2);
        Check.due("7: mean(0)", x.mean(0), 1);
        Check.due("7: cut", x.asked(), 1);
        Play.row(x, 0, -1, -2, -2);
        Check.due("7: mean(0)", x.mean(0), 1);
        Check.due("7: cut towards 0", x.asked(), -1);
        Play.row(x, 0, Integer.MAX_VALUE, Integer.MAX_VALUE, Integer.MAX_VALUE);
        Check.due("7: mean(0)", x.mean(0), 1);
        Check.due("7: does not wrap", x.asked(), Integer.MAX_VALUE);
        Play.row(x, 0, Integer.MIN_VALUE, Integer.MIN_VALUE);
        Check.due("7: mean(0)", x.mean(0), 1);
        Check.due("7: does not wrap", x.asked(), Integer.MIN_VALUE);
        Check.due("7: mean(1)", x.mean(1), WithinWords.FINDING);
        Check.due("7: NOTHING", x.finding(), 1);
        x.row(1, 0);
        Check.due("7: mean(1) of none", x.mean(1), WithinWords.FINDING);
        Check.due("7: NOUGHT", x.finding(), 4);
        Check.due("7: mean(6)", x.mean(6), WithinWords.BAD);
        Check.due("7: refused tells nothing", x.asked(), Integer.MIN_VALUE);
    }
}
