import java.io.IOException;
import java.nio.file.DirectoryStream;
import java.nio.file.Files;
import java.nio.file.Path;
import java.util.regex.Matcher;
import java.util.regex.Pattern;

/** Each sentence of the document, from what it is to promise 21, is quoted by the says(..) of a test. */
public final class SentencesTest {
    private static final Pattern QUOTE = Pattern.compile("\\bsays\\(\"([^\"]+)\"\\);");
    // Headings, signatures (FaceTest has the face) and marks say nothing that a test could break.
    private static final String BESIDE = "```java.*?```|```text|```|# WrittenBench|## What it is|## The public face|## Terms"
        + "|## Promise \\d+: [^`]*`[^`]*`:|==== I+\\.|THE FLOW\\. |## Not promised.*";

    public static void main(String[] args) throws IOException {
        String document = Files.readString(Path.of("..", "shared", "DOC.md")).replaceAll("\\s+", " ");
        boolean[] isQuoted = new boolean[document.length()];
        int quotes = 0;
        try (DirectoryStream<Path> files = Files.newDirectoryStream(Path.of("src", "test", "java"), "*Test.java")) {
            for (Path file : files) quotes += mark(document, isQuoted, Files.readString(file));
        }
        String rest = leftOver(document, isQuoted);
        boolean right = quotes > 100 && !rest.matches(".*[A-Za-z0-9].*");
        System.out.println("SentencesTest: " + quotes + " quotes" + (right ? "" : ", none of: " + rest));
        if (!right) System.exit(1);
    }

    private static int mark(String document, boolean[] isQuoted, String source) {
        int quotes = 0;
        Matcher m = QUOTE.matcher(source);
        while (m.find()) {
            String words = m.group(1);
            quotes++;
            for (int at = document.indexOf(words); at >= 0; at = document.indexOf(words, at + 1)) {
                for (int k = at; k < at + words.length(); k++) isQuoted[k] = true;
            }
        }
        return quotes;
    }

    private static String leftOver(String document, boolean[] isQuoted) {
        StringBuilder rest = new StringBuilder();
        for (int k = 0; k < document.length(); k++) {
            rest.append(isQuoted[k] ? '|' : document.charAt(k));
        }
        return rest.toString().replaceAll(BESIDE, "").replaceAll("\\|+", "|");
    }
}
