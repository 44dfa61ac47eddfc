import java.io.IOException;
import java.lang.reflect.Constructor;
import java.lang.reflect.Field;
import java.lang.reflect.Method;
import java.lang.reflect.Modifier;
import java.nio.charset.StandardCharsets;
import java.nio.file.Files;
import java.nio.file.Path;
import java.util.ArrayList;
import java.util.List;
import java.util.Set;
import java.util.TreeSet;
import java.util.regex.Matcher;
import java.util.regex.Pattern;

/** The public face of the document, and those rules of LANGUAGE.md that a test can see. */
final class FaceTest {
    private static final String[] FACE = {"int row(int, int)", "int lay(int, int, int)", "int at(int, int)",
        "int tear(int)", "int copy(int, int, int, int, int)", "int mean(int)", "int text(int, int)",
        "int put(int, int, int)", "int letters(int)", "int word(int, int)", "int fault(int)", "int tell(int, int)",
        "int join(int, int, int)", "int part(int, int, int, int)", "int turn(int, int, int)",
        "int drop(int, int, int)", "int erase(int)", "int size(int)", "int letter(int, int)", "int kind(int)",
        "int mark(int, int)", "int ways(int, int)", "int way(int, int, int, boolean)",
        "int places(int, int, boolean)", "int judge(int, int, int)", "int bar(int, int)", "int inner(int, int)",
        "int rank(int, int)", "int byRank(int, int, int, int)", "int arches(int)", "int absent(int, int)",
        "int added(int, int)", "int alike(int, int, int)", "int parting(int, int, int)", "int common(int, int)",
        "int cover(int, int)", "int both(int, int)", "int twins(int, int, int)", "int odds(int, int)",
        "int byChance(int, int)", "int asked()", "long many()", "long upper()", "long lower()", "int count(int)",
        "int finding()", "int findings(int)", "long digest()"};

    public static void main(String[] args) throws IOException {
        methods();
        faceOfDocument();
        constants();
        nested();
        source();
        Check.end();
    }

    private static void methods() {
        Class<?> face = WithinWords.class;
        Check.holds("the class is public and final",
                Modifier.isPublic(face.getModifiers()) && Modifier.isFinal(face.getModifiers()));
        Set<String> found = new TreeSet<>();
        Set<String> names = new TreeSet<>();
        for (Method method : face.getDeclaredMethods()) {
            if (Modifier.isPublic(method.getModifiers())) {
                StringBuilder told = new StringBuilder();
                for (Class<?> type : method.getParameterTypes()) {
                    told.append(told.length() == 0 ? "" : ", ").append(type.getSimpleName());
                }
                found.add(method.getReturnType().getSimpleName() + " " + method.getName() + "(" + told + ")");
                names.add(method.getName());
            } else {
                Check.holds(method + " is private", Modifier.isPrivate(method.getModifiers()));
            }
        }
        Check.due("the face", found.toString(), new TreeSet<>(Set.of(FACE)).toString());
        noNameTwice(face, names);
        for (Class<?> inside : face.getDeclaredClasses()) {
            noNameTwice(inside, names);
        }
        Constructor<?>[] constructors = face.getDeclaredConstructors();
        Check.due("one constructor", constructors.length, 1);
        Check.holds("it is public, of none", Modifier.isPublic(constructors[0].getModifiers())
                && constructors[0].getParameterCount() == 0);
    }

    /** Each line of the document's face stands in the source, names and all, in the document's order. */
    private static void faceOfDocument() throws IOException {
        String document = Files.readString(Path.of("../shared/DOC.md"), StandardCharsets.UTF_8);
        int begin = document.indexOf("```java\n", document.indexOf("## The public face"));
        int end = document.indexOf("```", begin + 1);
        Check.holds("the document has a face", begin >= 0 && end > begin);
        List<String> due = publicLines(begin < 0 || end < begin ? "" : document.substring(begin, end));
        String source = Files.readString(Path.of("src/main/java/WithinWords.java"), StandardCharsets.US_ASCII);
        Check.due("the face of the document", String.join("\n", publicLines(source)), String.join("\n", due));
        Check.due("its lines: the class, the constants, the constructor, the methods", due.size(), FACE.length + 3);
    }

    private static List<String> publicLines(String java) {
        List<String> found = new ArrayList<>();
        for (String line : java.split("\n")) {
            if (line.strip().startsWith("public ")) {
                found.add(line.strip().replaceAll(" ?[{;]$", ""));
            }
        }
        return found;
    }

    private static void noNameTwice(Class<?> type, Set<String> names) {
        for (Method method : type.getDeclaredMethods()) {
            boolean ofFace = type == WithinWords.class && Modifier.isPublic(method.getModifiers());
            Check.holds(method + " bears no name of the face", ofFace || !names.contains(method.getName()));
            Check.holds(method + " takes at most seven", method.getParameterCount() <= 7);
        }
    }

    private static void constants() {
        Set<String> found = new TreeSet<>();
        for (Field field : WithinWords.class.getDeclaredFields()) {
            if (Modifier.isPublic(field.getModifiers())) {
                found.add(field.getName());
                Check.holds(field + " is a constant",
                        Modifier.isStatic(field.getModifiers()) && Modifier.isFinal(field.getModifiers()));
            } else {
                Check.holds(field + " is private", Modifier.isPrivate(field.getModifiers()));
            }
        }
        Check.due("constants", found.toString(), "[BAD, FINDING, FULL, NONE, SPENT, STATE]");
        int[] values = {WithinWords.BAD, WithinWords.FULL, WithinWords.FINDING, WithinWords.STATE, WithinWords.SPENT,
            WithinWords.NONE};
        Check.due("their numbers", java.util.Arrays.toString(values), "[-1, -2, -3, -4, -6, -9]");
    }

    private static void nested() {
        Class<?>[] inside = WithinWords.class.getDeclaredClasses();
        Check.holds("at most some twelve classes", inside.length <= 11);
        for (Class<?> type : inside) {
            int modifiers = type.getModifiers();
            Check.holds(type + " is static, and not for others", Modifier.isStatic(modifiers)
                    && !Modifier.isPublic(modifiers) && !Modifier.isProtected(modifiers));
            countFields(type);
        }
        countFields(WithinWords.class);
    }

    private static void countFields(Class<?> type) {
        int fields = 0;
        for (Field field : type.getDeclaredFields()) {
            fields += Modifier.isStatic(field.getModifiers()) ? 0 : 1;
            Check.holds(field + ": static ones are final",
                    !Modifier.isStatic(field.getModifiers()) || Modifier.isFinal(field.getModifiers()));
        }
        Check.holds(type + " has at most some twenty fields", fields <= 20);
    }

    private static void source() throws IOException {
        String whole = Files.readString(Path.of("src/main/java/WithinWords.java"), StandardCharsets.US_ASCII);
        String code = whole.replaceAll("(?m)//.*$", "");
        Matcher ruledOut = Pattern.compile("\\b(throw|throws|try|catch|synchronized|assert|import|package|hashCode|"
                + "toString|\\w+Exact|double|float|instanceof|native|transient|volatile|record|enum|interface)\\b"
                + "|->|::|\"").matcher(code);
        Check.holds("a word that is ruled out, or that asks for a look at LANGUAGE.md", !ruledOut.find());
        int begun = 0;
        String[] lines = whole.split("\n");
        for (int i = 0; i < lines.length; i++) {
            begun = lines[i].matches(" {4,8}[a-zA-Z].*[)] [{]") ? i : begun;
            Check.holds("line " + (i + 1) + ": methods stay short", !lines[i].matches(" {4,8}}") || i - begun < 60);
        }
    }
}
