import java.util.ArrayList;
import java.util.List;

/** A run of calls that is done anew on a new object for each thing that is looked at behind it. */
final class Scene {
    private static final int BY = 5;
    private static final int CALLS_MOST = 512;

    private final List<String> calls = new ArrayList<>();

    private Scene() {
    }

    /** Nothing is there, nothing has been told. */
    static Scene bare() {
        return new Scene();
    }

    /** Words 0, 1, .. of k letters; no row, no text. */
    static Scene with(int k, String... words) {
        Scene scene = new Scene().does("letters(" + k + ")");
        for (int w = 0; w < words.length; w++) {
            scene.word(w, words[w]);
        }
        return scene;
    }

    /** All there is is there, of each KIND; all that can be told has been told, each finding answered. */
    static Scene full() {
        return furnished(true);
    }

    /** As full(), but rows 1, 3, 5, texts 1, 3 and words 1, 3, 5, 7 are missing. */
    static Scene holed() {
        return furnished(false).does("tear(1)", "tear(3)", "tear(5)", "erase(1)", "erase(3)", "erase(5)", "erase(7)");
    }

    private static Scene furnished(boolean allTexts) {
        Scene scene = new Scene().does("size(0)", "row(0, -1)", "text(0, -1)");
        scene.word(0, "abcab").word(1, "ab").word(5, "").word(6, "ccc");
        scene.row(0, 1, 2, 0).row(1, 5, -6).row(2, 0, 1).row(3).row(4, 7).row(5, 2, 2);
        scene.text(0, "ab2").text(2, " (ab)2");
        if (allTexts) {
            scene.text(1, "").text(3, "a(");
        }
        scene.does("tell(2, 2)", "join(3, 1, 0)", "turn(4, 3, 1)", "drop(7, 0, 2)");
        scene.does("at(1, 1)", "ways(0, 1)", "odds(0, 1)");
        return scene.does("at(0, 3)", "at(0, -1)", "mean(3)", "mark(0, 1)", "mark(0, 2)", "mark(0, 3)");
    }

    Scene does(String... more) {
        calls.addAll(List.of(more));
        return this;
    }

    Scene row(int r, int... values) {
        does("row(" + r + ", " + values.length + ")");
        for (int i = 0; i < values.length; i++) {
            does("lay(" + r + ", " + i + ", " + values[i] + ")");
        }
        return this;
    }

    Scene text(int t, String signs) {
        does("text(" + t + ", " + signs.length() + ")");
        for (int i = 0; i < signs.length(); i++) {
            does("put(" + t + ", " + i + ", " + (int) signs.charAt(i) + ")");
        }
        return this;
    }

    /** By a row that is missing again then. */
    Scene word(int w, String letters) {
        int[] values = new int[letters.length()];
        for (int i = 0; i < values.length; i++) {
            values[i] = letters.charAt(i) - 'a';
        }
        return row(BY, values).does("word(" + w + ", " + BY + ")", "tear(" + BY + ")");
    }

    WithinWords make() {
        Check.holds("a scene has at most 512 calls", calls.size() <= CALLS_MOST);
        WithinWords x = new WithinWords();
        for (String call : calls) {
            Calls.answer(x, call);
        }
        return x;
    }

    /**
     * Calls and their answers by turns, all on one object. Besides calls: "ROW 0" (its ints with commas),
     * "LETTERS 0" (a row's ints as letters), "WORD 0" (its letters); "missing".
     */
    void answers(Object... callsAndAnswers) {
        WithinWords x = make();
        StringBuilder run = new StringBuilder(Sentence.label());
        for (int i = 0; i + 1 < callsAndAnswers.length; i += 2) {
            String call = (String) callsAndAnswers[i];
            Object want = callsAndAnswers[i + 1];
            run.append(call).append(' ');
            if (want instanceof String) {
                Check.due(run.toString(), read(x, call), (String) want);
            } else {
                Check.due(run.toString(), Calls.answer(x, call), ((Number) want).longValue());
            }
        }
    }

    private static String read(WithinWords x, String what) {
        int which = Integer.parseInt(what.substring(what.indexOf(' ') + 1));
        if (what.startsWith("ROW")) {
            return Calls.readRow(x, which);
        }
        return what.startsWith("LETTERS") ? Calls.readLetters(x, which) : Calls.readWord(x, which);
    }

    /** The call is refused by this answer, and changes nothing at all. */
    void refuses(String call, int answer) {
        changesNothing(call, answer, 0);
    }

    /** The call is refused by FINDING, which is told; it changes nothing else. */
    void finds(String call, int finding) {
        changesNothing(call, WithinWords.FINDING, finding);
    }

    /** The call answers NONE, and changes nothing at all. */
    void hasNone(String call) {
        changesNothing(call, WithinWords.NONE, 0);
    }

    void changesNothing(String call, int answer, int finding) {
        WithinWords as = make();
        WithinWords x = make();
        String name = Sentence.label() + call;
        Check.due(name, Calls.answer(x, call), answer);
        Check.due(name + " finding()", x.finding(), finding == 0 ? as.finding() : finding);
        for (int f = 1; f <= 5; f++) {
            Check.due(name + " findings(" + f + ")", x.findings(f), as.findings(f) + (f == finding ? 1 : 0));
        }
        Check.due(name + " changes nothing", allThatIsSeen(x), allThatIsSeen(as));
    }

    /** What has been told comes first, since looking at the rest tells something. */
    private static String allThatIsSeen(WithinWords x) {
        StringBuilder seen = new StringBuilder();
        seen.append(x.asked()).append(' ').append(x.many()).append(' ').append(x.upper()).append('/').append(x.lower());
        seen.append(' ').append(x.digest());
        for (int what = 0; what <= 5; what++) {
            seen.append(' ').append(x.count(what));
        }
        for (int r = 0; r < 6; r++) {
            seen.append(" row ").append(Calls.readRow(x, r));
        }
        for (int t = 0; t < 4; t++) {
            seen.append(" text ").append(Calls.takeText(x, t));
        }
        for (int w = 0; w < 8; w++) {
            seen.append(" word ").append(Calls.readWord(x, w)).append(" kind ").append(x.kind(w));
            for (int kind = 1; kind <= 4; kind++) {
                seen.append(' ').append(x.mark(w, kind));
            }
        }
        return seen.toString();
    }

    /** For % the ends low and high are taken; what is behind them, and the farthest, is BAD. */
    void takesJust(String call, int low, int high) {
        takes(call.replace("%", String.valueOf(low)));
        takes(call.replace("%", String.valueOf(high)));
        refuses(call.replace("%", String.valueOf(low - 1)), WithinWords.BAD);
        refuses(call.replace("%", String.valueOf(high + 1)), WithinWords.BAD);
        refuses(call.replace("%", "MIN"), WithinWords.BAD);
        refuses(call.replace("%", "MAX"), WithinWords.BAD);
    }

    void takes(String call) {
        long answer = Calls.answer(make(), call);
        Check.holds(Sentence.label() + call + " is not refused, answered " + answer,
                answer >= 0 || answer == WithinWords.NONE);
    }
}
