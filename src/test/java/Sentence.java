import java.io.IOException;
import java.nio.charset.StandardCharsets;
import java.nio.file.Files;
import java.nio.file.Path;
import java.util.ArrayList;
import java.util.HashMap;
import java.util.List;
import java.util.Map;

/**
 * A sentence of the document, word for word, with the test that is its own. In the end every word of
 * 'Terms' and of each promise must stand in a sentence that has a test.
 */
final class Sentence {
    /** In place of a promise's number: what stands ahead of the promises. */
    static final int TERMS = 0;
    private static final int PROMISES = 49;
    private static final Path DOCUMENT = Path.of("../shared/DOC.md");
    private static final Map<Integer, List<String>> TESTED = new HashMap<>();
    private static String label = "";

    private Sentence() {
    }

    static void of(int promise, String words, Runnable test) {
        TESTED.computeIfAbsent(promise, p -> new ArrayList<>()).add(words);
        label = (promise == TERMS ? "Terms" : "promise " + promise) + " [" + words + "] ";
        int before = Check.doneSoFar();
        test.run();
        Check.holds(label + "has a test", Check.doneSoFar() > before);
        label = "";
    }

    static String label() {
        return label;
    }

    static void checkThatAllAreTested() throws IOException {
        String document = Files.readString(DOCUMENT, StandardCharsets.UTF_8).replaceAll("\\s+", " ");
        checkSection("Terms", termsOf(document), TESTED.get(TERMS));
        for (int p = 1; p <= PROMISES; p++) {
            checkSection("promise " + p, promiseOf(document, p), TESTED.get(p));
        }
    }

    private static String between(String document, String from, String to) {
        int begin = document.indexOf(from);
        int end = document.indexOf(to, begin + 1);
        Check.holds("the document has [" + from + " .. " + to + "]", begin >= 0 && end > begin);
        return begin >= 0 && end > begin ? document.substring(begin + from.length(), end) : "";
    }

    /** What the object is used for, and 'Terms', without the face's headings. */
    private static String termsOf(String document) {
        return between(document, "odds. ======== ANSWERS.", "## The public face")
                + between(document, "## Terms", "Ahead of the calls").replace("```text", "");
    }

    private static String promiseOf(String document, int p) {
        String end = p == PROMISES ? "## Not promised" : "## Promise " + (p + 1) + ":";
        String whole = between(document, "## Promise " + p + ":", end);
        return whole.substring(whole.indexOf("`:") + 2);
    }

    private static void checkSection(String name, String section, List<String> sentences) {
        Check.holds(name + " has tests", sentences != null);
        if (sentences == null) {
            return;
        }
        StringBuilder left = new StringBuilder(section);
        for (String words : sentences) {
            Check.holds(name + " says [" + words + "]", section.contains(words));
            for (int at = section.indexOf(words); at >= 0; at = section.indexOf(words, at + 1)) {
                for (int i = at; i < at + words.length(); i++) {
                    left.setCharAt(i, ' ');
                }
            }
        }
        String untested = left.toString().replaceAll("[^A-Za-z0-9]+", " ").trim();
        Check.due(name + ": words without a test of their own", untested, "");
    }
}
