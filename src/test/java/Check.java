import java.io.IOException;
import java.nio.file.Files;
import java.nio.file.Path;

/** What the tests by hand share: the ops by name, the checks, and the sentence that a check belongs to. */
abstract class Check {
    static final int SET = 0;
    static final int COPY = 1;
    static final int ADD = 2;
    static final int READ = 3;
    static final int PRINT = 4;
    static final int SKIP = 5;
    static final int STORE = 6;
    static final int LOAD = 7;
    static final int CALL = 8;
    static final int RETURN = 9;
    static final int FREE = 10;
    static final int OUTSIDE = 11;
    static final int NONE = -1;
    static final int MIN = Integer.MIN_VALUE;
    static final int MAX = Integer.MAX_VALUE;

    private static final Path DOCUMENT = Path.of("..", "shared", "DOC.md");
    private static String document = null;
    private static String sentence = "";
    private static int sentences = 0;
    private static int checks = 0;
    private static int wrong = 0;

    /** The checks that follow are of this sentence, which must stand so in the document. */
    static void says(String words) {
        sentence = words;
        sentences++;
        checks++;
        if (!document().contains(words)) {
            wrong++;
            System.out.println("the document does not say: " + words);
        }
    }

    private static String document() {
        if (document == null) {
            try {
                document = Files.readString(DOCUMENT).replaceAll("\\s+", " ");
            } catch (IOException e) {
                document = "";
            }
        }
        return document;
    }

    static void due(String what, int got, int want) {
        checks++;
        if (got != want) {
            wrong++;
            System.out.println("\"" + sentence + "\": " + what + " answered " + got + ", due is " + want);
        }
    }

    static void due(String what, boolean got, boolean want) {
        due(what, got ? 1 : 0, want ? 1 : 0);
    }

    /** Adds an instruction; the arguments that are not given are 0. */
    static int put(WrittenBench x, int f, int op, int... args) {
        int[] all = new int[4];
        System.arraycopy(args, 0, all, 0, args.length);
        return x.code(f, op, all[0], all[1], all[2], all[3]);
    }

    /** Changes an instruction; the arguments that are not given are 0. */
    static boolean turn(WrittenBench x, int f, int i, int op, int... args) {
        int[] all = new int[4];
        System.arraycopy(args, 0, all, 0, args.length);
        return x.change(f, i, op, all[0], all[1], all[2], all[3]);
    }

    /** A new object whose function 0 is these instructions. */
    static WrittenBench of(int[]... instructions) {
        WrittenBench x = new WrittenBench();
        add(x, 0, instructions);
        return x;
    }

    static void add(WrittenBench x, int f, int[]... instructions) {
        for (int[] o : instructions) {
            int[] args = java.util.Arrays.copyOfRange(o, 1, o.length);
            due("code of " + java.util.Arrays.toString(o), put(x, f, o[0], args) > 0, true);
        }
    }

    /** One instruction, for of and add. */
    static int[] o(int... opAndArguments) {
        return opAndArguments;
    }

    static void numbers(WrittenBench x, int... numbers) {
        for (int v : numbers) x.input(v);
    }

    static void end(String name) {
        System.out.println(name + ": " + sentences + " sentences, " + checks + " checks, " + wrong + " wrong");
        if (wrong != 0) System.exit(1);
    }
}
