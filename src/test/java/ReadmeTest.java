import java.io.IOException;
import java.nio.charset.StandardCharsets;
import java.nio.file.DirectoryStream;
import java.nio.file.Files;
import java.nio.file.Path;
import java.util.ArrayList;
import java.util.List;
import java.util.regex.Matcher;
import java.util.regex.Pattern;

/** README.md: its example answers as it says there, and it says how the tests are run and which there are. */
final class ReadmeTest {
    private static final Pattern CALL = Pattern.compile("x\\.(\\w+\\(.*\\)); +// (-?\\d+)(?:: (.+))?");
    private static final Pattern SIGN = Pattern.compile("'(.)'");
    private static final Pattern CLAIM = Pattern.compile("(word|row) (\\d)(?:,[a-z ]+)? is ([a-f]+$|-?\\d+(?: -?\\d+)*)");
    private static final int CALLS_LEAST = 30, CLAIMS_LEAST = 10, CALLS_MOST = 512;

    private static int claims = 0;

    public static void main(String[] args) throws IOException {
        String readme = Files.readString(Path.of("README.md"), StandardCharsets.US_ASCII);
        example(readme);
        howTestsAreRun(readme);
        Check.end();
    }

    private static void example(String readme) {
        int begin = readme.indexOf("```java\n");
        int end = readme.indexOf("```", begin + 1);
        Check.holds("README.md has an example", begin >= 0 && end > begin);
        if (begin < 0 || end < begin) {
            return;
        }
        String[] lines = readme.substring(begin, end).split("\n");
        Check.due("how an object is made", lines[1], "WithinWords x = new WithinWords();");
        List<String> calls = new ArrayList<>();
        WithinWords x = new WithinWords();
        for (int i = 2; i < lines.length; i++) {
            Matcher line = CALL.matcher(lines[i]);
            if (!line.matches()) {
                Check.holds("README.md: [" + lines[i] + "] is a call with its answer", false);
                continue;
            }
            String call = signsAsNumbers(line.group(1));
            calls.add(call);
            Check.due("README.md: " + line.group(1), Calls.answer(x, call), Long.parseLong(line.group(2)));
            checkClaims(calls, line.group(3) == null ? "" : line.group(3));
        }
        Check.holds("the example is long enough and not too long",
                calls.size() >= CALLS_LEAST && calls.size() <= CALLS_MOST);
        Check.holds("what it says of words and rows was found", claims >= CLAIMS_LEAST);
    }

    private static String signsAsNumbers(String call) {
        return SIGN.matcher(call).replaceAll(sign -> String.valueOf((int) sign.group(1).charAt(0)));
    }

    /** Looking at a row tells something, so each look has an object of its own. */
    private static void checkClaims(List<String> calls, String words) {
        Matcher claim = CLAIM.matcher(words);
        while (claim.find()) {
            claims++;
            WithinWords x = new WithinWords();
            for (String call : calls) {
                Calls.answer(x, call);
            }
            int which = Integer.parseInt(claim.group(2));
            boolean isWord = claim.group(1).equals("word");
            String got = isWord ? Calls.readWord(x, which) : Calls.readRow(x, which).replace(",", " ");
            Check.due("README.md: [" + words + "]", got, claim.group(3));
        }
    }

    private static void howTestsAreRun(String readme) throws IOException {
        Check.holds("README.md says how the tests are run", readme.contains("\n    .ci/run\n"));
        Check.holds("what it says to run is there", Files.isExecutable(Path.of(".ci/run")));
        try (DirectoryStream<Path> tests = Files.newDirectoryStream(Path.of("src/test/java"), "*Test.java")) {
            for (Path test : tests) {
                String name = test.getFileName().toString().replace(".java", "");
                Check.holds("README.md names " + name, readme.contains("`" + name + "`"));
            }
        }
    }
}
