import java.util.Random;

/**
 * Rules 7 and 13 of LANGUAGE.md: runs of 512 calls with any arguments, on long words too: none throws,
 * all end, and the same calls give the same answers on another object.
 */
final class NeverThrowsTest {
    private static final int RUNS = 150;
    /** And digest() as the 512th. */
    private static final int CALLS = 511;
    private static final String[] FAR = {"MIN", "-10", "-9", "-1", "8", "20", "21", "39", "40", "41", "60", "61", "MAX"};

    private final Random random;
    private final WithinWords one = new WithinWords();
    private final WithinWords other = new WithinWords();
    private int made = 0;

    private NeverThrowsTest(long seed) {
        random = new Random(seed);
    }

    public static void main(String[] args) {
        for (long seed = 0; seed < RUNS; seed++) {
            new NeverThrowsTest(seed).run();
        }
        Check.end();
    }

    private void run() {
        int k = 1 + random.nextInt(6);
        both("letters(" + k + ")");
        for (int w = 0; w < 3; w++) {
            longWord(w, k);
        }
        longText();
        while (made < CALLS) {
            both(anyCall(TermEdges.SHAPES[random.nextInt(TermEdges.SHAPES.length)]));
        }
        Check.due("digest()", one.digest(), other.digest());
    }

    private void both(String call) {
        if (made < CALLS) {
            made++;
            Check.due(call, Calls.answer(one, call), Calls.answer(other, call));
        }
    }

    private void longWord(int w, int k) {
        int n = 40 - random.nextInt(3);
        both("row(0, " + n + ")");
        for (int i = 0; i < n; i++) {
            both("lay(0, " + i + ", " + random.nextInt(k) + ")");
        }
        both("word(" + w + ", 0)");
    }

    private void longText() {
        String signs = "aab()()299 ";
        both("text(0, 60)");
        for (int i = 0; i < 60; i++) {
            both("put(0, " + i + ", " + (int) signs.charAt(random.nextInt(signs.length())) + ")");
        }
    }

    private String anyCall(String shape) {
        String[] parts = shape.split(" ");
        StringBuilder call = new StringBuilder(parts[0]).append('(');
        for (int i = 1; i < parts.length; i++) {
            call.append(i == 1 ? "" : ", ").append(anyOf(parts[i].charAt(0)));
        }
        return call.append(')').toString();
    }

    private String anyOf(char what) {
        if (what == 'b') {
            return random.nextBoolean() ? "true" : "false";
        }
        if (random.nextInt(12) == 0) {
            return FAR[random.nextInt(FAR.length)];
        }
        return String.valueOf(switch (what) {
            case 'r', 'f', 'c' -> random.nextInt(6);
            case 't', 'e', 'g' -> random.nextInt(4);
            case 's' -> 1 << random.nextInt(8) | 1 << random.nextInt(8);
            case 'd', 'x', 'm' -> random.nextInt(41);
            default -> random.nextInt(8);
        });
    }
}
