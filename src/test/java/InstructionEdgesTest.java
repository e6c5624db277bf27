import java.util.Arrays;

/** Each sentence of Terms that bounds an instruction: the last that is taken, the first that is not. */
public final class InstructionEdgesTest extends Check {
    private static final int[] FAR = {-1, MIN, MAX, MIN + 1, MAX - 1, -16, -256};

    public static void main(String[] args) {
        ops();
        cells();
        functions();
        thirty();
        whatAnOpHasNot();
        numbersOfSet();
        rowsOfCopy();
        lengthsOfSkip();
        rowsOfStore();
        rowsOfLoad();
        rowsOfFree();
        rowsOfOutside();
        end("InstructionEdgesTest");
    }

    private static void right(int op, int a, int b, int c, int d) {
        String what = Arrays.toString(new int[] {op, a, b, c, d});
        WrittenBench x = of(o(SET, 3, 77));
        due("code " + what, x.code(0, op, a, b, c, d), 2);
        due("count behind code " + what, x.count(10), 2);
        due("change " + what, x.change(0, 0, op, a, b, c, d), true);
        due("count behind change " + what, x.count(10), 2);
    }

    private static void off(int op, int a, int b, int c, int d) {
        String what = Arrays.toString(new int[] {op, a, b, c, d});
        WrittenBench x = of(o(SET, 3, 77));
        due("code " + what, x.code(0, op, a, b, c, d), NONE);
        due("change " + what, x.change(0, 0, op, a, b, c, d), false);
        due("nothing more behind " + what, x.count(10), 1);
        due("run behind " + what, x.run(), 0);
        due("one is done behind " + what, x.ran(0), 1);
        due("it is as it was behind " + what, x.cell(3, 0), 77);
    }

    private static void offWith(int[] o, int at, int... values) {
        for (int v : values) {
            int[] other = o.clone();
            other[at] = v;
            off(other[0], other[1], other[2], other[3], other[4]);
        }
    }

    private static void rightWith(int[] o, int at, int... values) {
        for (int v : values) {
            int[] other = o.clone();
            other[at] = v;
            right(other[0], other[1], other[2], other[3], other[4]);
        }
    }

    /** One instruction of each op that is as told, with room on all sides. */
    private static final int[][] EACH = {
        {SET, 5, 5, 0, 0}, {COPY, 5, 6, 2, 0}, {ADD, 5, 6, 0, 0}, {READ, 5, 0, 0, 0}, {PRINT, 5, 0, 0, 0},
        {SKIP, 5, 1, 0, 0}, {STORE, 5, 2, 6, 7}, {LOAD, 5, 6, 2, 7}, {CALL, 2, 0, 0, 0}, {RETURN, 0, 0, 0, 0},
        {FREE, 5, 2, 0, 0}, {OUTSIDE, 5, 2, 0, 0}};

    private static void ops() {
        says("FUNCTIONS 0 to 5, each a row of at most 30 INSTRUCTIONS (op, a, b, c, d; what an op has not is 0)");
        for (int[] o : EACH) right(o[0], o[1], o[2], o[3], o[4]);
        for (int op : new int[] {-1, 12, 13, 255, 256, MIN, MAX}) {
            off(op, 0, 0, 0, 0);
            off(op, 1, 1, 1, 1);
        }
    }

    private static void cells() {
        says("CELLS 0 to 15, each a number 0 to 255, WRITTEN or not.");
        // Which arguments are single cells; those that begin a row are looked at with their rows.
        int[][] single = {{SET, 1}, {ADD, 1}, {ADD, 2}, {READ, 1}, {PRINT, 1}, {SKIP, 1}, {STORE, 3}, {STORE, 4},
            {LOAD, 1}, {LOAD, 4}};
        for (int[] s : single) {
            rightWith(EACH[s[0]], s[1], 0, 1, 14, 15);
            offWith(EACH[s[0]], s[1], 16, 17, 255, 256);
            offWith(EACH[s[0]], s[1], FAR);
        }
        int[][] firstOfRow = {{COPY, 1}, {COPY, 2}, {STORE, 1}, {LOAD, 2}, {FREE, 1}, {OUTSIDE, 1}};
        for (int[] s : firstOfRow) {
            rightWith(EACH[s[0]], s[1], 0, 1, 13, 14);
            offWith(EACH[s[0]], s[1], 15, 16, 17, MAX - 2, MAX - 7);
            offWith(EACH[s[0]], s[1], FAR);
        }
    }

    private static void functions() {
        says("8 CALL f.");
        rightWith(EACH[CALL], 1, 0, 1, 4, 5);
        offWith(EACH[CALL], 1, 6, 7, 30);
        offWith(EACH[CALL], 1, FAR);
        says("NONE, and nothing happens: no such FUNCTION, 30, or something not as told.");
        WrittenBench x = new WrittenBench();
        for (int f = 0; f < 6; f++) due("code of function " + f, put(x, f, READ, f), 1);
        for (int f : FAR) due("code of function " + f, put(x, f, READ, 0), NONE);
        for (int f : new int[] {6, 7, 10, 16, 180}) due("code of function " + f, put(x, f, READ, 0), NONE);
        for (int f = 0; f < 6; f++) due("one each", x.count(10 + f), 1);
    }

    private static void thirty() {
        says("An INSTRUCTION more of a FUNCTION: how many it has; NONE, and nothing happens: no such FUNCTION, 30,");
        WrittenBench x = new WrittenBench();
        for (int f = 0; f < 6; f++) {
            for (int k = 1; k <= 29; k++) due("number " + k + " of " + f, put(x, f, PRINT, f), k);
        }
        for (int f = 0; f < 6; f++) {
            due("the 30th of " + f, put(x, f, f == 5 ? RETURN : CALL, f == 5 ? 0 : f + 1), 30);
            due("the 31st of " + f, put(x, f, SET, f, 9), NONE);
            due("once more of " + f, put(x, f, SET, f, 9), NONE);
            due("still 30 of " + f, x.count(10 + f), 30);
        }
        due("all of them are done", x.run(), 0);
        due("180 are done", x.ran(0), 180);
        due("all prints", x.ran(4), 174);
        due("none of the refused ones", x.ran(5), 0);
        due("cleared", x.clear(3), 30);
        due("room again", put(x, 3, PRINT, 3), 1);
        due("no room in another", put(x, 2, PRINT, 3), NONE);
    }

    private static void whatAnOpHasNot() {
        says("what an op has not is 0");
        int[] has = {2, 3, 2, 1, 1, 2, 4, 4, 1, 0, 2, 2};
        for (int[] o : EACH) {
            for (int at = has[o[0]] + 1; at <= 4; at++) {
                offWith(o, at, 1, 2, 8, 16, 256);
                offWith(o, at, FAR);
            }
        }
    }

    private static void numbersOfSet() {
        says("0 SET a v (v 0 to 255): the cell is v, WRITTEN.");
        rightWith(EACH[SET], 2, 0, 1, 254, 255);
        offWith(EACH[SET], 2, 256, 257, 511, 512);
        offWith(EACH[SET], 2, FAR);
    }

    /** A row of n cells whose first is argument at and whose n is argument nAt. */
    private static void row(int op, int at, int nAt) {
        int[] base = EACH[op].clone();
        for (int other = 1; other <= 4; other++) if (base[other] > 2) base[other] = 0;
        for (int n = 1; n <= 8; n++) {
            base[nAt] = n;
            rightWith(base, at, 0, 15 - n, 16 - n);
            offWith(base, at, 17 - n, 18 - n, 16, MAX, MAX - n, MAX - n + 1, MIN, -1, -n);
        }
        base[at] = 0;
        offWith(base, nAt, 0, 9, 10, 16, 17, 32, 33);
        offWith(base, nAt, FAR);
        base[at] = 15;
        offWith(base, nAt, 0, 2, MAX, MAX - 14, MAX - 15, MIN, -1);
    }

    private static void rowsOfCopy() {
        says("1 COPY a b n (n 1 to 8; a + n, b + n at most 16)");
        row(COPY, 1, 3);
        row(COPY, 2, 3);
        right(COPY, 8, 8, 8, 0);
        off(COPY, 9, 8, 8, 0);
        off(COPY, 8, 9, 8, 0);
        right(COPY, 15, 15, 1, 0);
        off(COPY, 15, 14, 2, 0);
        off(COPY, 14, 15, 2, 0);
    }

    private static void lengthsOfSkip() {
        says("5 SKIP a n (-30 to 30)");
        for (int n = -30; n <= 30; n++) right(SKIP, 0, n, 0, 0);
        offWith(EACH[SKIP], 2, 31, 32, -31, -32, 255, MIN, MAX, MAX - 1);
    }

    private static void rowsOfStore() {
        says("6 STORE a n i b: cell a + v, v the number of cell i, is as cell b (n 1 to 8; a + n at most 16).");
        row(STORE, 1, 2);
        right(STORE, 8, 8, 15, 15);
        right(STORE, 15, 1, 15, 15);
        off(STORE, 15, 2, 15, 15);
    }

    private static void rowsOfLoad() {
        says("7 LOAD a b n i: cell a is as cell b + v (b + n at most 16).");
        row(LOAD, 2, 3);
        right(LOAD, 15, 8, 8, 15);
        right(LOAD, 15, 15, 1, 15);
        off(LOAD, 15, 15, 2, 15);
    }

    private static void rowsOfFree() {
        says("10 FREE a n (n 1 to 8, a + n at most 16): these cells are 0, not WRITTEN.");
        row(FREE, 1, 2);
    }

    private static void rowsOfOutside() {
        says("11 OUTSIDE a n: these cells are 1, WRITTEN.");
        row(OUTSIDE, 1, 2);
    }
}
