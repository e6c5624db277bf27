import java.util.Random;
import java.util.TreeMap;

/** Runs of many calls on WrittenBench and on SlowBench: every answer must be the same (promises 1 to 21). */
public final class ModelTest {
    private static final int RUNS = 6000;
    private static int wrong = 0;
    private static int calls = 0;
    private static final TreeMap<String, Integer> seen = new TreeMap<>();

    private final Random random;
    private final WrittenBench fast = new WrittenBench();
    private final SlowBench slow = new SlowBench();
    private final int run;
    private final int cells;
    private final int functions;
    private final int tame;
    private final StringBuilder story = new StringBuilder();

    private ModelTest(int run) {
        this.run = run;
        random = new Random(7919L * run + 1);
        cells = 2 + random.nextInt(run % 9 == 0 ? 15 : 5);
        functions = 1 + random.nextInt(6);
        tame = random.nextInt(4);
    }

    public static void main(String[] args) {
        for (int run = 0; run < RUNS && wrong < 5; run++) new ModelTest(run).play();
        System.out.println("ModelTest: " + calls + " calls compared, " + wrong + " wrong");
        if (args.length > 0) System.out.println(seen);
        if (wrong != 0) System.exit(1);
    }

    private void due(String call, int got, int want) {
        calls++;
        String name = call.substring(0, call.indexOf('('));
        seen.merge(name + (want < 0 ? want : want == 0 ? 0 : 1), 1, Integer::sum);
        story.append(call).append(" -> ").append(want).append('\n');
        if (got != want) {
            wrong++;
            System.out.println("run " + run + ":\n" + story + "  but answered " + got);
        }
    }

    private int upTo(int n) {
        return random.nextInt(n + 1);
    }

    private boolean rarely() {
        return random.nextInt(60) == 0;
    }

    private int oneCell() {
        return rarely() ? upTo(18) - 1 : random.nextInt(cells);
    }

    private int oneFunction() {
        return rarely() ? upTo(8) - 1 : random.nextInt(functions);
    }

    private int oneRow() {
        return rarely() ? upTo(10) - 1 : 1 + random.nextInt(3);
    }

    private int[] instruction() {
        int op = rarely() ? upTo(14) - 1 : random.nextInt(12);
        if (op == 10 && tame > 1) op = 11;
        if (op == 9 && tame > 0 && random.nextInt(3) > 0) op = 2;
        int a = oneCell();
        int b = 0;
        int c = 0;
        int d = 0;
        switch (op) {
            case 0: b = rarely() ? upTo(300) - 20 : random.nextInt(4) == 0 ? upTo(255) : random.nextInt(4); break;
            case 1: b = oneCell(); c = oneRow(); break;
            case 2: b = oneCell(); break;
            case 5: b = rarely() ? upTo(66) - 33 : random.nextInt(8) == 0 ? upTo(60) - 30 : upTo(6) - 2; break;
            case 6: b = oneRow(); c = oneCell(); d = oneCell(); break;
            case 7: b = oneCell(); c = oneRow(); d = oneCell(); break;
            case 8: a = tame == 3 ? Math.min(5, 1 + random.nextInt(functions)) : oneFunction(); break;
            case 9: a = 0; break;
            case 10: case 11: b = oneRow(); break;
            default: break;
        }
        if (rarely()) d = upTo(2) - 1;
        if (rarely()) b = upTo(2) - 1;
        return new int[] {op, a, b, c, d};
    }

    private void code() {
        int f = oneFunction();
        int[] o = instruction();
        add(f, o[0], o[1], o[2], o[3], o[4]);
    }

    private void mend() {
        due("mend()", fast.mend(), slow.mend());
        for (int k = 0; slow.mends != null && k <= slow.mends.size(); k++) {
            due("mended(" + k + ",0)", fast.mended(k, 0), slow.mended(k, 0));
            due("mended(" + k + ",1)", fast.mended(k, 1), slow.mended(k, 1));
        }
    }

    private void change() {
        int f = oneFunction();
        int i = upTo(slow.functions.get(Math.floorMod(f, 6)).size() + 2) - 1;
        int[] o = instruction();
        due("change(" + f + "," + i + "," + o[0] + "," + o[1] + "," + o[2] + "," + o[3] + "," + o[4] + ")",
            fast.change(f, i, o[0], o[1], o[2], o[3], o[4]) ? 1 : 0,
            slow.change(f, i, o[0], o[1], o[2], o[3], o[4]) ? 1 : 0);
    }

    private void play() {
        if (run % 5 == 1) {
            lookForWitnesses();
            return;
        }
        int first = random.nextInt(3) == 0 ? 60 : 8 + random.nextInt(16);
        for (int k = 0; k < first; k++) code();
        if (run % 40 == 0) fillAll();
        int more = 30 + random.nextInt(60);
        for (int k = 0; k < more && wrong == 0; k++) one();
        if (run % 20 == 0) askEachState();
    }

    private void fillAll() {
        for (int f = 5; f >= 0; f--) {
            for (int k = 0; k < 40; k++) {
                int[] o = instruction();
                add(f, o[0], o[1], o[2], o[3], o[4]);
            }
            due("change(" + f + ",0,8," + (f + 1) % 6 + ",0,0,0)", fast.change(f, 0, 8, (f + 1) % 6, 0, 0, 0) ? 1 : 0,
                slow.change(f, 0, 8, (f + 1) % 6, 0, 0, 0) ? 1 : 0);
        }
        due("change(5,0,5,1,28,0,0)", fast.change(5, 0, 5, 1, 28, 0, 0) ? 1 : 0, slow.change(5, 0, 5, 1, 28, 0, 0) ? 1 : 0);
    }

    /** Programs of reads and skips, where the input tells whether a cell is written at a print. */
    private void lookForWitnesses() {
        int longest = random.nextInt(4) == 0 ? 29 : 14;
        for (int k = 0; k < longest; k++) {
            int f = random.nextInt(5) == 0 ? 1 : 0;
            int kind = k < 3 ? 0 : random.nextInt(8);
            int low = random.nextInt(3);
            int high = 3 + random.nextInt(3);
            if (kind == 0) add(f, 3, k < 3 ? k : low, 0, 0, 0);
            else if (kind < 4) add(f, 5, low, random.nextInt(12) == 0 ? -3 : random.nextInt(4), 0, 0);
            else if (kind == 4) add(f, random.nextInt(3) == 0 ? 10 : 0, high, 1, 0, 0);
            else if (kind == 5) add(f, 4, high, 0, 0, 0);
            else if (kind == 6) add(f, 6 + random.nextInt(2), 3, 2, 2, high == 3 ? low : high);
            else add(f, random.nextInt(3) == 0 ? 8 : 2, random.nextInt(2), 0, 0, 0);
        }
        for (int f = 0; f < 2; f++) {
            for (int i = 0; i < slow.functions.get(f).size(); i++) {
                int l = 1 + random.nextInt(6);
                due("witness(" + f + "," + i + "," + l + ")", fast.witness(f, i, l), slow.witness(f, i, l));
            }
        }
    }

    private void add(int f, int op, int a, int b, int c, int d) {
        due("code(" + f + "," + op + "," + a + "," + b + "," + c + "," + d + ")",
            fast.code(f, op, a, b, c, d), slow.code(f, op, a, b, c, d));
    }

    private void askEachState() {
        for (int f = 0; f < 6; f++) {
            for (int i = 0; i <= slow.functions.get(f).size(); i++) {
                int c = random.nextInt(cells);
                due("state(" + f + "," + i + "," + c + ")", fast.state(f, i, c), slow.state(f, i, c));
            }
        }
    }

    private void one() {
        int f = oneFunction();
        int i = upTo(slow.functions.get(Math.floorMod(f, 6)).size() + 1);
        int c = oneCell();
        int what = upTo(8) - 1;
        int k = upTo(6) - 1;
        switch (random.nextInt(24)) {
            case 0: code(); break;
            case 1: change(); break;
            case 2: if (rarely() || slow.count(10 + f) == 0) due("clear(" + f + ")", fast.clear(f), slow.clear(f)); break;
            case 3: case 4:
                int v = rarely() ? upTo(300) - 20 : random.nextInt(4);
                due("input(" + v + ")", fast.input(v), slow.input(v));
                break;
            case 5: if (random.nextInt(8) == 0) due("empty()", fast.empty(), slow.empty()); break;
            case 6: case 7: due("run()", fast.run(), slow.run()); break;
            case 8: case 9: due("ran(" + what + ")", fast.ran(what), slow.ran(what)); break;
            case 10:
                int p = upTo(43) - 1;
                due("printed(" + p + ")", fast.printed(p), slow.printed(p));
                break;
            case 11: due("cell(" + c + "," + k + ")", fast.cell(c, k), slow.cell(c, k)); break;
            case 12: due("flow()", fast.flow(), slow.flow()); break;
            case 13: due("bad(" + k + "," + (what - 1) + ")", fast.bad(k, what - 1), slow.bad(k, what - 1)); break;
            case 14: case 15:
                due("state(" + f + "," + i + "," + c + ")", fast.state(f, i, c), slow.state(f, i, c));
                break;
            case 16:
                int l = rarely() ? upTo(12) : 1 + random.nextInt(random.nextInt(9) == 0 ? 10 : 5);
                due("witness(" + f + "," + i + "," + l + ")", fast.witness(f, i, l), slow.witness(f, i, l));
                break;
            case 17: due("needs(" + f + ")", fast.needs(f), slow.needs(f)); break;
            case 18: due("writes(" + f + ")", fast.writes(f), slow.writes(f)); break;
            case 19:
                int coins = rarely() ? upTo(102) - 1 : 1 + random.nextInt(5);
                due("cost(" + f + "," + coins + ")", fast.cost(f, coins), slow.cost(f, coins));
                break;
            case 20: mend(); break;
            case 21:
                due("mended(" + k + "," + (what % 4) + ")", fast.mended(k, what % 4), slow.mended(k, what % 4));
                break;
            case 22: if (random.nextInt(3) == 0) due("apply()", fast.apply() ? 1 : 0, slow.apply() ? 1 : 0); break;
            default:
                int w = rarely() ? upTo(40) - 5 : 10 * upTo(2) + random.nextInt(6);
                due("count(" + w + ")", fast.count(w), slow.count(w));
                break;
        }
    }
}
