/** Promises 8, 9, 12 and 13: texts, and words told by them. */
final class TextsTest {
    public static void main(String[] args) {
        textPromise();
        putPromise();
        faultPromise();
        faultByLetters();
        tellPromise();
        Check.end();
    }

    private static void textPromise() {
        WithinWords x = new WithinWords();
        Check.due("8: text(3, 60)", x.text(3, 60), 60);
        Check.due("8: blanks", x.put(3, 59, 97), 1032);
        Check.due("8: text(3, 60) again", x.text(3, 60), 60);
        Check.due("8: blanks again", x.put(3, 59, 97), 1032);
        Check.due("8: text(0, 0)", x.text(0, 0), 0);
        Check.due("8: text(0, 61)", x.text(0, 61), WithinWords.BAD);
        Check.due("8: text(4, 1)", x.text(4, 1), WithinWords.BAD);
        Check.due("8: text(-1, -1)", x.text(-1, -1), WithinWords.BAD);
        Check.due("8: text(3, -1)", x.text(3, -1), WithinWords.FINDING);
        Check.due("8: SIZE", x.finding(), 5);
        Check.due("8: refused leaves it", x.put(3, 59, 97), 1097);
    }

    private static void putPromise() {
        WithinWords x = new WithinWords();
        Check.due("9: put of none", x.put(0, 9, 1), WithinWords.FINDING);
        Check.due("9: NOTHING", x.finding(), 1);
        x.text(0, 2);
        Check.due("9: put(0, 0, 127)", x.put(0, 0, 127), 1032);
        Check.due("9: put(0, 0, 128)", x.put(0, 0, 128), 1127);
        Check.due("9: cut to a byte", x.put(0, 0, 255), 1000 - 128);
        Check.due("9: cut to a byte", x.put(0, 0, 256 + 98), 1000 - 1);
        Check.due("9: cut to a byte", x.put(0, 0, -200), 1098);
        Check.due("9: cut to a byte", x.put(0, 0, 0), 1056);
        Check.due("9: put(0, 1, 0)", x.put(0, 1, 0), 1032);
        Check.due("9: put(0, 2, 0)", x.put(0, 2, 0), WithinWords.FINDING);
        Check.due("9: BEYOND", x.finding(), 2);
        Check.due("9: put(0, -1, 0)", x.put(0, -1, 0), WithinWords.FINDING);
        Check.due("9: put(4, 0, 0)", x.put(4, 0, 0), WithinWords.BAD);
        Check.due("9: put(-1, 0, 0)", x.put(-1, 0, 0), WithinWords.BAD);
    }

    private static void fault(String signs, int want) {
        WithinWords x = new WithinWords();
        Play.text(x, 1, signs);
        Check.due("12: fault of [" + signs + "]", x.fault(1), want);
        Check.due("13: tell of [" + signs + "]", x.tell(0, 1) == WithinWords.STATE ? 1 : 0,
                want == WithinWords.NONE ? 0 : 1);
    }

    private static void faultPromise() {
        for (String whole : new String[] {"", " ", "     ", "a", "  a", "a  ", "abc", "a9", "(a)", "(a)1", "(ab2c)3c",
            "((((a))))", "((((a)2)2)2)9", "(a)(b)", "((a)(b))2", " (a(b))  "}) {
            fault(whole, WithinWords.NONE);
        }
        fault("d", 0);
        fault("A", 0);
        fault("(d)", 1);
        fault("a b", 2);
        fault("a  3", 3);
        fault(" a  (", 4);
        fault("a0", 1);
        fault("a12", 2);
        fault("3a", 0);
        fault(" 3", 1);
        fault("(3a)", 1);
        fault("()", 1);
        fault("a()", 2);
        fault("(a())", 3);
        fault("( a)", 1);
        fault("(a )", 2);
        fault("(a  ", 2);
        fault(")", 0);
        fault("a)", 1);
        fault("(a))", 3);
        fault("(", 1);
        fault("(a", 2);
        fault("((a)", 4);
        fault("(((((a)))))", 4);
        fault("((((a)(b)(", 10);
        fault("((((a)(b)((", 10);
        fault("((((a))(((", 9);
        fault("a" + (char) 1, 1);
        fault("a" + (char) 0xe9, 1);
        WithinWords x = new WithinWords();
        Check.due("12: fault of none", x.fault(3), WithinWords.FINDING);
        Check.due("12: NOTHING", x.finding(), 1);
        Check.due("12: fault(4)", x.fault(4), WithinWords.BAD);
        Check.due("12: fault(-1)", x.fault(-1), WithinWords.BAD);
    }

    private static void faultByLetters() {
        for (int k = 1; k <= 6; k++) {
            WithinWords x = new WithinWords();
            x.letters(k);
            Play.text(x, 0, "abcdefg");
            Check.due("12: fault among " + k, x.fault(0), k);
        }
    }

    private static void told(String signs, String want) {
        WithinWords x = new WithinWords();
        Play.text(x, 2, signs);
        Check.due("13: tell of [" + signs + "]", x.tell(7, 2), want.length());
        Check.due("13: told by [" + signs + "]", Play.read(x, 7), want);
        Check.due("13: KIND", x.kind(7), 1);
        Check.due("22: bytes of its TEXT", x.mark(7, 1), signs.length());
    }

    private static void tellPromise() {
        told("", "");
        told("   ", "");
        told(" ab3 ", "abbb");
        told("(ab)2c", "ababc");
        told("a(bc2)3", "abccbccbcc");
        told("((a2b)2(c)2)2", "aabaabccaabaabcc");
        told("a9b9c9(abc)4a", "aaaaaaaaabbbbbbbbbcccccccccabcabcabcabca");
        told("(a5(b3)1)5", "aaaaabbb".repeat(5));
        WithinWords x = new WithinWords();
        Play.text(x, 0, "a9b9c9(abc)4ab");
        Check.due("13: tell of 41", x.tell(0, 0), WithinWords.FULL);
        Check.due("13: nothing told", x.size(0), WithinWords.FINDING);
        Play.text(x, 1, "((((a9)9)9)9)9((((a9)9)9)9)9((((a9)9)9)9)9");
        Check.due("12: it may be long", x.fault(1), WithinWords.NONE);
        Check.due("13: FULL", x.tell(0, 1), WithinWords.FULL);
        Play.text(x, 2, "((((a9)9)9)9)9x");
        Check.due("13: STATE ahead of FULL", x.tell(0, 2), WithinWords.STATE);
        Play.text(x, 2, "((((a9)9)9)9)9()");
        Check.due("12: brackets behind too much", x.fault(2), 15);
        Check.due("13: tell of none", x.tell(0, 3), WithinWords.FINDING);
        Check.due("13: NOTHING", x.finding(), 1);
        Check.due("13: tell(8, 3)", x.tell(8, 3), WithinWords.BAD);
        Check.due("13: tell(-1, 0)", x.tell(-1, 0), WithinWords.BAD);
        Check.due("13: tell(0, 4)", x.tell(0, 4), WithinWords.BAD);
    }
}
