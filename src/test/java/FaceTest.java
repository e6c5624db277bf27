import java.lang.reflect.Constructor;
import java.lang.reflect.Field;
import java.lang.reflect.Method;
import java.lang.reflect.Modifier;
import java.nio.file.Files;
import java.nio.file.Path;
import java.util.Set;
import java.util.TreeSet;

/** The public face of the document, and the rules of LANGUAGE.md that can be seen by looking at the words. */
public final class FaceTest {
    private static int wrong = 0;

    private static final String[] FACE = {
        "int code(int,int,int,int,int,int)", "boolean change(int,int,int,int,int,int,int)", "int clear(int)",
        "int input(int)", "int empty()", "int run()", "int ran(int)", "int printed(int)", "int cell(int,int)",
        "int flow()", "int bad(int,int)", "int state(int,int,int)", "int witness(int,int,int)", "int needs(int)",
        "int writes(int)", "int cost(int,int)", "int mend()", "int mended(int,int)", "boolean apply()",
        "int count(int)"};

    private static void hold(boolean right, String what) {
        if (!right) {
            wrong++;
            System.out.println("FaceTest: " + what);
        }
    }

    public static void main(String[] args) throws Exception {
        outerClass();
        nestedClasses();
        words(Files.readString(Path.of("src/main/java/WrittenBench.java")));
        System.out.println("FaceTest: " + wrong + " wrong");
        if (wrong != 0) System.exit(1);
    }

    private static String told(Method m) {
        StringBuilder b = new StringBuilder(m.getReturnType().getName()).append(' ').append(m.getName()).append('(');
        for (int k = 0; k < m.getParameterCount(); k++) {
            b.append(k == 0 ? "" : ",").append(m.getParameterTypes()[k].getName());
        }
        return b.append(')').toString();
    }

    private static void outerClass() {
        Class<?> c = WrittenBench.class;
        hold(Modifier.isPublic(c.getModifiers()) && Modifier.isFinal(c.getModifiers()), "public final class");
        Set<String> open = new TreeSet<>();
        for (Method m : c.getDeclaredMethods()) {
            if (Modifier.isPrivate(m.getModifiers())) continue;
            open.add(told(m));
            hold(m.getModifiers() == Modifier.PUBLIC, m + " is public alone");
        }
        hold(open.equals(new TreeSet<>(Set.of(FACE))), "the methods are " + open);
        for (Constructor<?> k : c.getDeclaredConstructors()) {
            hold(k.getModifiers() == Modifier.PUBLIC && k.getParameterCount() == 0, "constructor " + k);
        }
        for (Field f : c.getDeclaredFields()) {
            boolean none = f.getName().equals("NONE");
            hold(none ? f.getModifiers() == (Modifier.PUBLIC | Modifier.STATIC | Modifier.FINAL)
                : Modifier.isPrivate(f.getModifiers()), "field " + f);
            if (Modifier.isStatic(f.getModifiers())) hold(Modifier.isFinal(f.getModifiers()), "static field " + f);
        }
    }

    private static void nestedClasses() {
        Set<String> names = new TreeSet<>();
        for (String row : FACE) names.add(row.substring(row.indexOf(' ') + 1, row.indexOf('(')));
        hold(WrittenBench.class.getDeclaredClasses().length <= 12, "at most twelve classes");
        for (Class<?> inside : WrittenBench.class.getDeclaredClasses()) {
            hold(Modifier.isStatic(inside.getModifiers()), inside + " is static");
            hold(inside.getDeclaredFields().length <= 22, inside + " has some twenty fields");
            for (Method m : inside.getDeclaredMethods()) {
                hold(!names.contains(m.getName()), m + " bears a public name");
                hold(m.getParameterCount() <= 7, m + " takes at most seven");
            }
        }
    }

    private static void words(String source) {
        String bare = source.replaceAll("(?s)/\\*.*?\\*/", "").replaceAll("//[^\n]*", "");
        for (String word : new String[] {"throw", "throws", "try", "catch", "synchronized", "assert", "package", "import",
            "hashCode", "toString", "equals", "goto", "native", "volatile", "Exact", "lambda", "null"}) {
            hold(!bare.matches("(?s).*\\b" + word + "\\b.*"), "the word " + word);
        }
        for (String sign : new String[] {"->", "::", "@", "while (true)", "for (;;)", "\""}) {
            hold(!bare.contains(sign), "the sign " + sign);
        }
        for (String made : bare.split("\\bnew ")) {
            String head = made.substring(0, Math.min(6, made.length()));
            if (made == bare || bare.startsWith(made)) continue;
            hold(head.startsWith("int[") || head.startsWith("boole") || Character.isUpperCase(head.charAt(0)), "new " + head);
        }
    }
}
