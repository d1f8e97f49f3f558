import java.io.IOException;
import java.nio.charset.StandardCharsets;
import java.nio.file.Files;
import java.nio.file.Path;
import java.util.regex.Matcher;
import java.util.regex.Pattern;

/** The rules of LANGUAGE.md that can be seen in the program's words. */
final class LanguageTest {
    private static final Path PROGRAM = Path.of("src", "main", "java", "CraneGuard.java");
    private static final String[] FORBIDDEN = {"throw", "throws", "try", "catch", "finally", "synchronized",
        "assert", "import", "package", "protected", "volatile", "native", "float", "double", "Object", "var",
        "System\\.(?!arraycopy\\b)\\w+", "Thread", "Random", "\\w+Exact", "equals", "hashCode", "toString",
        "->", "::", "@\\w+", "new int\\[\\w+\\]\\[\\]"};

    private LanguageTest() {
    }

    static void run() {
        String words;
        try {
            words = withoutComments(Files.readString(PROGRAM, StandardCharsets.UTF_8));
        } catch (IOException e) {
            Check.holds("the program can be read: " + e, false);
            return;
        }
        for (String word : FORBIDDEN) {
            String edge = Character.isLetter(word.charAt(0)) ? "\\b" : "";
            Matcher matcher = Pattern.compile(edge + word + edge).matcher(words);
            Check.holds("the program is without " + word, !matcher.find());
        }
        Check.holds("the program's signs are 1 to 127", words.chars().allMatch(c -> c >= 1 && c <= 127));
        Check.holds("static fields are final", !Pattern.compile("static (?!final|int|long|boolean|class)")
                .matcher(words.replace("final class", "class")).find());
        Matcher loops = Pattern.compile("while \\((?!position < length &&)").matcher(words);
        Check.holds("each while has a counter against a bound", !loops.find());
    }

    private static String withoutComments(String text) {
        return text.replaceAll("(?s)/\\*.*?\\*/", "").replaceAll("//[^\n]*", "");
    }
}
