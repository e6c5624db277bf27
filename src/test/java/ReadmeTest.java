import java.lang.reflect.Method;
import java.nio.file.Files;
import java.nio.file.Path;
import java.util.regex.Matcher;
import java.util.regex.Pattern;

/** README.md says each method in the document's words, and its example answers as it says. */
public final class ReadmeTest {
    private static final Pattern PROMISE = Pattern.compile("## Promise (\\d+): [^`]*(`[^`]+`: .*?)(?= ## )");
    private static final Pattern CALL = Pattern.compile("x\\.(\\w+)\\(([^)]*)\\);\\s*// (-?\\d+|true|false):");
    private static int checks = 0;
    private static int wrong = 0;

    private static void hold(boolean right, String what) {
        checks++;
        if (!right) {
            wrong++;
            System.out.println("ReadmeTest: " + what);
        }
    }

    public static void main(String[] args) throws Exception {
        String readme = Files.readString(Path.of("README.md"));
        promises(oneLine(readme), oneLine(Files.readString(Path.of("..", "shared", "DOC.md"))));
        example(readme);
        System.out.println("ReadmeTest: " + checks + " checks, " + wrong + " wrong");
        if (wrong != 0) System.exit(1);
    }

    private static String oneLine(String text) {
        return text.replaceAll("\\s+", " ");
    }

    private static void promises(String readme, String document) {
        Matcher m = PROMISE.matcher(document);
        int found = 0;
        while (m.find()) {
            found++;
            hold(readme.contains("- " + m.group(2).trim()), "README.md lacks promise " + m.group(1) + ": " + m.group(2));
        }
        hold(found == 21, found + " promises found in the document");
    }

    private static void example(String readme) throws Exception {
        WrittenBench x = new WrittenBench();
        Matcher m = CALL.matcher(readme);
        int found = 0;
        while (m.find()) {
            found++;
            String answer = String.valueOf(answer(x, m.group(1), m.group(2)));
            hold(answer.equals(m.group(3)), m.group() + " answers " + answer);
        }
        String rows = readme.replaceAll("(?m)^(?!x\\.).*\n", "");
        hold(found == rows.lines().count(), "each call of the example tells its answer");
    }

    private static Object answer(WrittenBench x, String name, String arguments) throws Exception {
        String[] words = arguments.isEmpty() ? new String[0] : arguments.split(", ");
        Object[] numbers = new Object[words.length];
        for (int k = 0; k < words.length; k++) numbers[k] = Integer.valueOf(words[k]);
        for (Method m : WrittenBench.class.getMethods()) {
            if (m.getName().equals(name)) return m.invoke(x, numbers);
        }
        return "no such method";
    }
}
