/** Each sentence of Terms that bounds a run, and promises 5 to 10. */
public final class RunEdgesTest extends Check {
    public static void main(String[] args) {
        copiesAreNoUses();
        setAndCopy();
        copyLooksAhead();
        addWrapsAround();
        addIsWrittenIfBothAre();
        readBehindTheLast();
        skipOnlyIfZero();
        skipLengths();
        skipToItself();
        theEndIsNoInstruction();
        storeAtItsEdges();
        loadAtItsEdges();
        freeAndOutsideRows();
        uses();
        eachRunBeginsAnew();
        functionZeroReturns();
        refused();
        thousand();
        twelveOpen();
        badUsesGoOn();
        inputHasSixteen();
        ranOfTheLatest();
        printedFirstForty();
        cellAtTheEnd();
        end("RunEdgesTest");
    }

    /** Cells from the first on: their numbers, and 0 or 1 for whether they are written. */
    private static void cells(WrittenBench x, String what, int first, int[] number, int[] written) {
        for (int k = 0; k < number.length; k++) {
            due(what + ", number of cell " + (first + k), x.cell(first + k, 0), number[k]);
            due(what + ", cell written " + (first + k), x.cell(first + k, 1), written[k]);
        }
    }

    private static void copiesAreNoUses() {
        says("a copy of what is unwritten is told where it is used, not where it is copied");
        WrittenBench x = of(o(SET, 9, 0), o(COPY, 0, 8, 1), o(ADD, 1, 8), o(STORE, 2, 1, 9, 8), o(LOAD, 3, 8, 1, 9));
        due("run", x.run(), 0);
        due("none is bad yet", x.ran(1), 0);
        for (int k = 0; k < 4; k++) due("the copy is unwritten", x.cell(k, 1), 0);
        due("none by the flow", x.flow(), 0);
        for (int k = 0; k < 4; k++) put(x, 0, PRINT, k);
        x.run();
        due("each is told where it is used", x.ran(1), 4);
        due("the first", x.ran(3), 5);
        due("by the flow too", x.flow(), 4);
    }

    private static void setAndCopy() {
        says("0 SET a v (v 0 to 255): the cell is v, WRITTEN.");
        WrittenBench x = of(o(SET, 0, 255), o(SET, 15, 255), o(SET, 15, 0), o(SET, 1, 0));
        x.run();
        cells(x, "SET", 0, new int[] {255, 0, 0}, new int[] {1, 1, 0});
        cells(x, "SET", 14, new int[] {0, 0}, new int[] {0, 1});
        says("cells a, a + 1, .. are as cells b, b + 1, .. were, WRITTEN or not as these");
        WrittenBench y = of(o(SET, 0, 9), o(SET, 4, 4), o(COPY, 3, 0, 2));
        y.run();
        cells(y, "COPY", 2, new int[] {0, 9, 0, 0}, new int[] {0, 1, 0, 0});
        WrittenBench z = of(o(SET, 5, 7), o(COPY, 5, 5, 1), o(COPY, 8, 8, 8));
        z.run();
        cells(z, "onto itself", 5, new int[] {7, 0}, new int[] {1, 0});
    }

    private static WrittenBench firstEight() {
        WrittenBench x = new WrittenBench();
        for (int k = 0; k < 8; k++) put(x, 0, SET, k, 10 + k);
        return x;
    }

    private static void copyLooksAhead() {
        says("(all looked at ahead)");
        WrittenBench up = firstEight();
        put(up, 0, COPY, 1, 0, 8);
        up.run();
        cells(up, "one up", 0, new int[] {10, 10, 11, 12, 13, 14, 15, 16, 17, 0}, new int[] {1, 1, 1, 1, 1, 1, 1, 1, 1, 0});
        WrittenBench down = firstEight();
        put(down, 0, COPY, 0, 1, 8);
        down.run();
        cells(down, "one down", 0, new int[] {11, 12, 13, 14, 15, 16, 17, 0, 0}, new int[] {1, 1, 1, 1, 1, 1, 1, 0, 0});
        WrittenBench far = firstEight();
        put(far, 0, COPY, 8, 0, 8);
        put(far, 0, COPY, 0, 7, 2);
        far.run();
        cells(far, "eight up", 7, new int[] {17, 10, 11, 12, 13, 14, 15, 16, 17}, new int[] {1, 1, 1, 1, 1, 1, 1, 1, 1});
        cells(far, "across", 0, new int[] {17, 10, 12}, new int[] {1, 1, 1});
        // What is not written must be looked at ahead as well: unwritten cell 3 stands between written ones.
        WrittenBench hole = firstEight();
        put(hole, 0, FREE, 3, 1);
        put(hole, 0, COPY, 2, 1, 4);
        hole.run();
        cells(hole, "with a hole up", 1, new int[] {11, 11, 12, 0, 14, 16}, new int[] {1, 1, 1, 0, 1, 1});
        put(hole, 0, COPY, 2, 3, 3);
        hole.run();
        cells(hole, "with a hole down", 1, new int[] {11, 12, 0, 14, 14, 16}, new int[] {1, 1, 0, 1, 1, 1});
    }

    private static void addWrapsAround() {
        says("2 ADD a b: a is the sum of both (of 256 the rest)");
        int[][] sums = {{255, 1, 0}, {1, 255, 0}, {255, 255, 254}, {200, 55, 255}, {200, 56, 0}, {128, 128, 0}, {0, 0, 0},
            {127, 128, 255}, {250, 7, 1}};
        for (int[] s : sums) {
            WrittenBench x = of(o(SET, 0, s[0]), o(SET, 1, s[1]), o(ADD, 0, 1));
            x.run();
            cells(x, s[0] + " + " + s[1], 0, new int[] {s[2], s[1]}, new int[] {1, 1});
        }
        WrittenBench twice = of(o(SET, 4, 129), o(ADD, 4, 4));
        twice.run();
        due("a cell and itself", twice.cell(4, 0), 2);
        WrittenBench skips = of(o(SET, 0, 255), o(SET, 1, 1), o(ADD, 0, 1), o(SKIP, 0, 1), o(PRINT, 1));
        skips.run();
        due("what wraps to 0 skips", skips.ran(4), 0);
    }

    private static void addIsWrittenIfBothAre() {
        says("WRITTEN if both are.");
        WrittenBench x = of(o(SET, 0, 7), o(SET, 1, 8), o(SET, 2, 9), o(ADD, 0, 1), o(ADD, 2, 5), o(ADD, 6, 1), o(ADD, 7, 8),
            o(ADD, 9, 9));
        x.run();
        cells(x, "ADD", 0, new int[] {15, 8, 9}, new int[] {1, 1, 0});
        cells(x, "ADD", 5, new int[] {0, 8, 0, 0, 0}, new int[] {0, 0, 0, 0, 0});
        due("none is a use", x.ran(1), 0);
    }

    private static void readBehindTheLast() {
        says("3 READ a: the next INPUT number (0 behind the last), WRITTEN.");
        WrittenBench x = of(o(SET, 0, 9), o(READ, 0), o(READ, 15));
        x.run();
        due("of an empty input", x.cell(0, 0), 0);
        due("is written", x.cell(0, 1), 1);
        numbers(x, 255);
        x.run();
        due("the only one", x.cell(0, 0), 255);
        due("behind the only one", x.cell(15, 0), 0);
        due("is written too", x.cell(15, 1), 1);
        WrittenBench y = new WrittenBench();
        for (int k = 0; k < 16; k++) due("input", y.input(100 + k), k + 1);
        for (int k = 0; k < 16; k++) put(y, 0, READ, k);
        y.run();
        for (int k = 0; k < 16; k++) due("number " + k, y.cell(k, 0), 100 + k);
        put(y, 0, READ, 3);
        put(y, 0, READ, 4);
        y.run();
        due("the 17th", y.cell(3, 0), 0);
        due("the 18th", y.cell(4, 0), 0);
        due("the 16th stays", y.cell(15, 0), 115);
        due("all are written", y.ran(5), 16);
        y.empty();
        y.run();
        due("of an input that is empty again", y.cell(15, 0), 0);
    }

    private static void skipOnlyIfZero() {
        says("if cell a is 0, on at the INSTRUCTION n + 1 behind");
        for (int v : new int[] {1, 2, 128, 255}) {
            WrittenBench x = of(o(SET, 0, v), o(SKIP, 0, 1), o(PRINT, 0));
            x.run();
            due("no skip with " + v, x.ran(4), 1);
        }
        WrittenBench zero = of(o(SET, 0, 0), o(SKIP, 0, 1), o(PRINT, 0), o(SET, 1, 1));
        zero.run();
        due("a skip with 0", zero.ran(4), 0);
        due("to the one behind", zero.cell(1, 0), 1);
        WrittenBench unwritten = of(o(SKIP, 0, 1), o(PRINT, 0));
        unwritten.run();
        due("a skip with an unwritten 0", unwritten.ran(4), 0);
        due("is bad", unwritten.ran(1), 1);
        WrittenBench sum = of(o(SET, 1, 3), o(ADD, 0, 1), o(SKIP, 0, 1), o(PRINT, 1));
        sum.run();
        due("no skip with an unwritten 3", sum.ran(4), 1);
    }

    /** A full function that begins and ends as told; all between are SETs of cell 15. */
    private static WrittenBench full(int[] first, int[] last) {
        WrittenBench x = of(first);
        for (int k = 1; k < 29; k++) put(x, 0, SET, 15, k);
        add(x, 0, last);
        return x;
    }

    private static void skipLengths() {
        says("5 SKIP a n (-30 to 30)");
        int[][] ahead = {{0, 30}, {1, 29}, {27, 3}, {28, 2}, {29, 1}, {30, 1}};
        for (int[] s : ahead) {
            WrittenBench x = full(o(SKIP, 0, s[0]), o(PRINT, 15));
            due("ends", x.run(), 0);
            due("done with a skip of " + s[0], x.ran(0), s[1]);
        }
        WrittenBench back = full(o(READ, 0), o(SKIP, 0, -30));
        numbers(back, 0, 1);
        due("ends", back.run(), 0);
        due("-30 from the last to the first", back.ran(0), 60);
        turn(back, 0, 28, SKIP, 0, -30);
        due("ends", back.run(), 0);
        due("-30 from the last but one to below 0", back.ran(0), 29);
        turn(back, 0, 28, SKIP, 0, -29);
        due("ends", back.run(), 0);
        due("-29 from it to the first", back.ran(0), 59);
        WrittenBench ahead1 = of(o(READ, 0), o(SKIP, 0, -2));
        numbers(ahead1, 0, 0, 1);
        ahead1.run();
        due("-2 is the one ahead", ahead1.ran(0), 6);
    }

    private static void skipToItself() {
        says("(-1: this one itself)");
        WrittenBench x = of(o(SET, 3, 1), o(SKIP, 0, -1), o(PRINT, 3));
        due("for ever", x.run(), 2);
        due("1000", x.ran(0), 1000);
        due("each time a bad use", x.ran(1), 999);
        turn(x, 0, 0, SET, 0, 1);
        due("not if it is not 0", x.run(), 0);
        due("3 done", x.ran(0), 3);
    }

    private static void theEndIsNoInstruction() {
        says("A place below 0 or behind the last INSTRUCTION is the end: RETURN (that is no INSTRUCTION).");
        int[][] skips = {{-2, 2}, {-3, 2}, {-30, 2}, {1, 2}, {2, 2}, {30, 2}};
        for (int[] s : skips) {
            WrittenBench x = of(o(CALL, 3));
            add(x, 3, o(SKIP, 0, s[0]), o(PRINT, 0));
            due("returns", x.run(), 0);
            due("done with a skip of " + s[0], x.ran(0), s[1]);
            due("prints with a skip of " + s[0], x.ran(4), 0);
            put(x, 0, SET, 1, 5);
            x.run();
            due("goes on behind the call", x.cell(1, 0), 5);
        }
        WrittenBench y = of(o(CALL, 5), o(CALL, 5), o(PRINT, 0));
        due("calls of an empty function", y.run(), 0);
        due("3 done", y.ran(0), 3);
        says("9 RETURN.");
        put(y, 5, RETURN);
        y.run();
        due("RETURN is one", y.ran(0), 5);
        put(y, 5, PRINT, 0);
        y.run();
        due("nothing behind RETURN", y.ran(0), 5);
        for (int k = 0; k < 28; k++) put(y, 5, RETURN);
        turn(y, 5, 0, SKIP, 0, 28);
        y.run();
        due("as the last of 30", y.ran(0), 7);
    }

    private static void storeAtItsEdges() {
        says("6 STORE a n i b: cell a + v, v the number of cell i, is as cell b (n 1 to 8; a + n at most 16).");
        for (int n = 1; n <= 8; n++) {
            for (int v : new int[] {0, n - 1}) {
                WrittenBench x = of(o(SET, 0, v), o(SET, 1, 99), o(STORE, 16 - n, n, 0, 1));
                due("STORE with n " + n + " and v " + v, x.run(), 0);
                due("stored", x.cell(16 - n + v, 0), 99);
                due("is written", x.cell(16 - n + v, 1), 1);
                due("no other", x.ran(5), 3);
            }
            WrittenBench y = of(o(SET, 0, n), o(SET, 1, 99), o(STORE, 16 - n, n, 0, 1));
            due("STORE with v as n " + n, y.run(), 1);
            due("nothing is stored", y.ran(5), 2);
        }
        WrittenBench of255 = of(o(SET, 0, 255), o(STORE, 0, 8, 0, 0));
        due("v 255", of255.run(), 1);
        WrittenBench unwritten = of(o(SET, 0, 1), o(SET, 4, 8), o(STORE, 3, 2, 0, 7));
        due("an unwritten one", unwritten.run(), 0);
        cells(unwritten, "is stored as it is", 3, new int[] {0, 0}, new int[] {0, 0});
        WrittenBench itself = of(o(SET, 2, 1), o(SET, 5, 60), o(STORE, 1, 2, 2, 5));
        due("onto the cell of v", itself.run(), 0);
        cells(itself, "onto the cell of v", 1, new int[] {0, 60}, new int[] {0, 1});
    }

    private static void loadAtItsEdges() {
        says("7 LOAD a b n i: cell a is as cell b + v (b + n at most 16).");
        for (int n = 1; n <= 8; n++) {
            for (int v : new int[] {0, n - 1}) {
                WrittenBench x = of(o(SET, 0, v), o(SET, 16 - n + v, 99), o(LOAD, 1, 16 - n, n, 0));
                due("LOAD with n " + n + " and v " + v, x.run(), 0);
                due("loaded", x.cell(1, 0), 99);
                due("is written", x.cell(1, 1), 1);
            }
            WrittenBench y = of(o(SET, 0, n), o(SET, 1, 5), o(LOAD, 1, 16 - n, n, 0));
            due("LOAD with v as n " + n, y.run(), 1);
            due("nothing is loaded", y.cell(1, 0), 5);
        }
        WrittenBench of255 = of(o(SET, 0, 255), o(LOAD, 0, 0, 8, 0));
        due("v 255", of255.run(), 1);
        WrittenBench unwritten = of(o(SET, 0, 1), o(SET, 4, 8), o(LOAD, 4, 6, 2, 0));
        due("an unwritten one", unwritten.run(), 0);
        cells(unwritten, "is loaded as it is", 4, new int[] {0}, new int[] {0});
        WrittenBench itself = of(o(SET, 2, 1), o(SET, 3, 60), o(LOAD, 2, 2, 2, 2));
        due("onto the cell of v", itself.run(), 0);
        cells(itself, "onto the cell of v", 2, new int[] {60, 60}, new int[] {1, 1});
    }

    private static void freeAndOutsideRows() {
        says("10 FREE a n (n 1 to 8, a + n at most 16): these cells are 0, not WRITTEN. 11 OUTSIDE a n: these cells are 1, WRITTEN.");
        for (int n = 1; n <= 8; n++) {
            for (int first : new int[] {0, 3, 16 - n}) {
                WrittenBench x = of(o(OUTSIDE, first, n));
                x.run();
                WrittenBench y = of(o(OUTSIDE, 0, 8), o(OUTSIDE, 8, 8), o(FREE, first, n));
                y.run();
                for (int k = 0; k < 16; k++) {
                    int in = k >= first && k < first + n ? 1 : 0;
                    due("OUTSIDE " + first + " " + n + ", number of " + k, x.cell(k, 0), in);
                    due("OUTSIDE " + first + " " + n + ", written " + k, x.cell(k, 1), in);
                    due("FREE " + first + " " + n + ", number of " + k, y.cell(k, 0), 1 - in);
                    due("FREE " + first + " " + n + ", written " + k, y.cell(k, 1), 1 - in);
                }
            }
        }
    }

    private static void uses() {
        says("USES are a of PRINT, a of SKIP, i of STORE and LOAD.");
        int[][] all = {{PRINT, 5}, {SKIP, 5, 0}, {STORE, 6, 2, 5, 1}, {LOAD, 1, 6, 2, 5}};
        int[][] others = {{SET, 5, 1}, {COPY, 5, 6, 1}, {COPY, 6, 5, 1}, {ADD, 5, 5}, {READ, 5}, {STORE, 5, 2, 0, 5},
            {LOAD, 5, 5, 2, 0}, {FREE, 5, 2}, {OUTSIDE, 5, 2}, {CALL, 5}, {RETURN}};
        for (int[] use : all) {
            WrittenBench x = of(o(SET, 0, 0), use);
            due("ends", x.run(), 0);
            due("a use of op " + use[0], x.ran(1), 1);
            due("by the flow, op " + use[0], x.flow(), 1);
            due("its cell, op " + use[0], x.bad(0, 2), 5);
            turn(x, 0, 0, SET, 5, 0);
            x.run();
            due("a right use of op " + use[0], x.ran(1), 0);
            due("right by the flow, op " + use[0], x.flow(), 0);
        }
        for (int[] other : others) {
            WrittenBench x = of(o(SET, 0, 0), other);
            due("ends", x.run(), 0);
            due("no use of op " + other[0], x.ran(1), 0);
            due("none by the flow, op " + other[0], x.flow(), 0);
        }
    }

    private static void eachRunBeginsAnew() {
        says("A RUN of FUNCTION 0 from all cells 0, not WRITTEN, with an INPUT.");
        WrittenBench x = of(o(OUTSIDE, 0, 8), o(OUTSIDE, 8, 8), o(PRINT, 0), o(PRINT, 9), o(READ, 1));
        numbers(x, 44);
        x.run();
        due("all written", x.ran(5), 16);
        due("two prints", x.ran(4), 2);
        turn(x, 0, 0, PRINT, 3);
        turn(x, 0, 1, READ, 5);
        due("again", x.run(), 0);
        due("a bad use now", x.ran(1), 3);
        due("the first of them", x.ran(3), 0);
        due("prints anew", x.ran(4), 3);
        due("prints what is 0 again", x.printed(0), 0);
        due("two are written", x.ran(5), 2);
        due("reads the first again", x.cell(5, 0), 44);
        due("and then what is behind", x.cell(1, 0), 0);
        for (int k = 0; k < 16; k++) due("all are 0 but 5", x.cell(k, 0), k == 5 ? 44 : 0);
        // However the one ahead ended, and wherever.
        int[][] ends = {{STORE, 0, 8, 9, 0}, {SKIP, 8, -1}, {CALL, 1}};
        for (int e = 0; e < ends.length; e++) {
            WrittenBench y = of(o(SET, 0, 7), o(SET, 9, 8), o(CALL, 1));
            add(y, 1, ends[e]);
            due("the one ahead", y.run(), e + 1);
            y.clear(1);
            due("the next one", y.run(), 0);
            due("3 done", y.ran(0), 3);
            due("none is bad", y.ran(1), 0);
            y.clear(0);
            due("and one of nothing", y.run(), 0);
            for (int k = 0; k < 16; k++) due("all are 0", y.cell(k, 0), 0);
            for (int what = 0; what < 6; what++) due("what " + what, y.ran(what), what == 2 || what == 3 ? NONE : 0);
        }
    }

    private static void functionZeroReturns() {
        says("It ends: 0 FUNCTION 0 RETURNS;");
        WrittenBench x = new WrittenBench();
        due("empty", x.run(), 0);
        put(x, 1, PRINT, 0);
        due("of function 0 alone", x.run(), 0);
        due("nothing done", x.ran(0), 0);
        put(x, 0, RETURN);
        put(x, 0, PRINT, 0);
        due("by RETURN", x.run(), 0);
        due("one done", x.ran(0), 1);
        // FUNCTION 0 that a CALL opened returns to behind the CALL.
        WrittenBench y = of(o(READ, 0), o(SKIP, 0, 1), o(CALL, 0), o(PRINT, 0));
        numbers(y, 1, 0);
        due("called by itself", y.run(), 0);
        due("both print", y.ran(4), 2);
        due("7 done", y.ran(0), 7);
    }

    private static void refused() {
        says("1 REFUSED: v of STORE, LOAD not below n (the USE counts);");
        int[][] both = {{STORE, 4, 2, 0, 1}, {LOAD, 4, 1, 2, 0}};
        for (int[] one : both) {
            for (int v = 0; v < 4; v++) {
                WrittenBench x = of(o(CALL, 1), o(PRINT, 9));
                add(x, 1, o(SET, 2, v), o(ADD, 0, 2), one, o(PRINT, 8));
                due("op " + one[0] + " with v " + v, x.run(), v < 2 ? 0 : 1);
                due("the use counts, op " + one[0], x.ran(1), v < 2 ? 3 : 1);
                due("its function", x.ran(2), 1);
                due("its place", x.ran(3), 2);
                due("nothing is done behind it", x.ran(4), v < 2 ? 2 : 0);
                due("INSTRUCTIONS done", x.ran(0), v < 2 ? 6 : 3);
            }
        }
    }

    /** An object with n INSTRUCTIONS of function 0 and those that it calls, n from 982 to 1000; 9 more have room. */
    private static WrittenBench withDone(int n) {
        WrittenBench x = new WrittenBench();
        for (int k = 0; k < 29; k++) put(x, 1, SET, 15, 0);
        put(x, 1, CALL, 2);
        for (int k = 0; k < 19; k++) put(x, 2, SET, 15, 0);
        for (int k = 0; k < 19; k++) put(x, 0, CALL, 1);
        for (int k = 0; k < 30; k++) put(x, 3, SET, 15, 0);
        put(x, 0, CALL, 3);
        put(x, 0, CALL, 4);
        for (int k = 0; k < n - 982; k++) put(x, 4, SET, 15, 0);
        return x;
    }

    private static void ends(String what, WrittenBench x, int end, int done) {
        due(what + " ends", x.run(), end);
        due(what + ", done", x.ran(0), done);
    }

    private static void thousand() {
        says("2: 1000 INSTRUCTIONS are done and one more would be;");
        ends("982", withDone(982), 0, 982);
        ends("999", withDone(999), 0, 999);
        ends("1000 and the end", withDone(1000), 0, 1000);
        int[][] more = {{SET, 0, 1}, {RETURN}, {PRINT, 15}, {CALL, 5}, {SKIP, 15, 5}, {STORE, 0, 1, 15, 15},
            {LOAD, 0, 0, 1, 15}};
        for (int[] one : more) {
            WrittenBench last = withDone(999);
            add(last, 0, one);
            ends("op " + one[0] + " as the 1000th", last, 0, 1000);
            WrittenBench tooMany = withDone(1000);
            add(tooMany, 0, one);
            ends("op " + one[0] + " as the 1001st", tooMany, 2, 1000);
            due("it is not done", tooMany.ran(4), 0);
            due("nothing is written by it", tooMany.ran(5), 1);
        }
        WrittenBench bad = withDone(1000);
        put(bad, 0, PRINT, 9);
        ends("a use as the 1001st", bad, 2, 1000);
        due("it is no bad one", bad.ran(1), 0);
        WrittenBench open = withDone(998);
        add(open, 0, o(CALL, 5));
        add(open, 5, o(RETURN));
        ends("a RETURN as the 1000th", open, 0, 1000);
        put(open, 0, PRINT, 15);
        ends("behind it", open, 2, 1000);
        WrittenBench refusedLast = withDone(999);
        add(refusedLast, 0, o(STORE, 0, 1, 15, 15));
        turn(refusedLast, 4, 0, SET, 15, 1);
        turn(refusedLast, 4, 16, SET, 15, 1);
        ends("refused as the 1000th", refusedLast, 1, 999);
    }

    private static void twelveOpen() {
        says("3: a CALL with 12 FUNCTIONS open (0 is one).");
        WrittenBench x = of(o(READ, 0), o(SKIP, 0, 1), o(CALL, 0), o(PRINT, 0));
        numbers(x, 1, 1, 1, 1, 1, 1, 1, 1, 1, 1);
        due("11 open", x.run(), 0);
        due("11 prints", x.ran(4), 11);
        numbers(x, 1);
        due("12 open", x.run(), 0);
        due("12 prints", x.ran(4), 12);
        due("done", x.ran(0), 47);
        numbers(x, 1);
        due("a CALL with 12 open", x.run(), 3);
        due("no prints", x.ran(4), 0);
        due("what was read stays", x.cell(0, 0), 1);
        // What returned is open no more.
        WrittenBench y = of(o(CALL, 1), o(CALL, 1), o(PRINT, 0));
        add(y, 1, o(READ, 0), o(SKIP, 0, 1), o(CALL, 1));
        numbers(y, 1, 1, 1, 1, 1, 1, 1, 0, 1, 1, 1, 1, 1, 1, 1, 0);
        due("twice 9 open", y.run(), 0);
        WrittenBench z = new WrittenBench();
        for (int f = 0; f < 5; f++) for (int k = 0; k < 2; k++) put(z, f, CALL, f + 1);
        due("6 open many times", z.run(), 0);
        due("62 calls", z.ran(0), 62);
        // 11 calls are done ahead of the one with 12 open: which bound comes first?
        WrittenBench deep = withDone(988);
        put(deep, 0, CALL, 5);
        put(deep, 5, CALL, 5);
        due("the 1000th is a CALL with 12 open", deep.run(), 3);
        WrittenBench late = withDone(989);
        put(late, 0, CALL, 5);
        put(late, 5, CALL, 5);
        due("the 1001st is one", late.run(), 2);
    }

    private static void badUsesGoOn() {
        says("A USE of a cell that is not WRITTEN is BAD; the RUN goes on.");
        WrittenBench x = of(o(PRINT, 0), o(SKIP, 0, 0), o(STORE, 1, 1, 0, 2), o(LOAD, 1, 2, 1, 0), o(SET, 0, 5), o(PRINT, 0));
        due("ends", x.run(), 0);
        due("four", x.ran(1), 4);
        due("all done", x.ran(0), 6);
        due("what is unwritten prints its number", x.printed(0), 0);
        due("what is written too", x.printed(1), 5);
        WrittenBench y = of(o(SET, 1, 30), o(ADD, 0, 1), o(PRINT, 0));
        y.run();
        due("an unwritten 30", y.printed(0), 30);
        due("is bad", y.ran(1), 1);
        WrittenBench z = of(o(SET, 0, 1), o(FREE, 0, 1), o(PRINT, 0));
        z.run();
        due("what was FREED is bad", z.ran(1), 1);
    }

    private static void inputHasSixteen() {
        says("A number (0 to 255) comes behind the INPUT: how many it has; NONE, and nothing happens: it has 16, or another number.");
        WrittenBench x = of(o(READ, 0), o(READ, 1));
        due("empty", x.empty(), 0);
        for (int v : new int[] {-1, 256, 257, 512, -256, MIN, MAX}) due("input " + v, x.input(v), NONE);
        due("nothing happened", x.count(0), 0);
        due("0", x.input(0), 1);
        due("255", x.input(255), 2);
        due("256 between", x.input(256), NONE);
        x.run();
        due("the first", x.cell(0, 0), 0);
        due("the second", x.cell(1, 0), 255);
        for (int k = 3; k <= 16; k++) due("number " + k, x.input(k), k);
        for (int v : new int[] {0, 1, 255, -1, 256}) due("the 17th: " + v, x.input(v), NONE);
        due("still 16", x.count(0), 16);
        says("The INPUT is empty: how many it had.");
        due("16", x.empty(), 16);
        due("none", x.empty(), 0);
        due("still none", x.count(0), 0);
        due("one anew", x.input(7), 1);
        x.run();
        due("it is the first", x.cell(0, 0), 7);
        due("what was there is gone", x.cell(1, 0), 0);
        due("one", x.empty(), 1);
    }

    private static void ranOfTheLatest() {
        says("2, 3: FUNCTION and INSTRUCTION of the first (NONE)");
        WrittenBench x = of(o(PRINT, 0));
        x.run();
        due("function 0", x.ran(2), 0);
        due("INSTRUCTION 0", x.ran(3), 0);
        turn(x, 0, 0, SET, 0, 0);
        x.run();
        due("none now", x.ran(2), NONE);
        due("no INSTRUCTION", x.ran(3), NONE);
        due("0 bad", x.ran(1), 0);
        WrittenBench y = of(o(CALL, 5), o(PRINT, 0));
        for (int k = 0; k < 29; k++) put(y, 5, READ, 1);
        put(y, 5, PRINT, 2);
        y.run();
        due("the first in time: function", y.ran(2), 5);
        due("the first in time: INSTRUCTION", y.ran(3), 29);
        due("two", y.ran(1), 2);
        says("1: BAD USES (each time)");
        WrittenBench twice = of(o(CALL, 1), o(CALL, 1), o(CALL, 1));
        put(twice, 1, PRINT, 0);
        twice.run();
        due("three times the same", twice.ran(1), 3);
        says("5: cells WRITTEN at its end.");
        WrittenBench z = new WrittenBench();
        z.run();
        due("none", z.ran(5), 0);
        put(z, 0, OUTSIDE, 0, 8);
        put(z, 0, OUTSIDE, 8, 8);
        z.run();
        due("all", z.ran(5), 16);
        put(z, 0, FREE, 15, 1);
        z.run();
        due("but one", z.ran(5), 15);
        says("NONE ahead of any, or for another what.");
        for (int what : new int[] {-1, 6, 7, MIN, MAX}) due("what " + what, z.ran(what), NONE);
        WrittenBench fresh = of(o(PRINT, 0));
        fresh.flow();
        fresh.witness(0, 0, 3);
        fresh.mend();
        for (int what = -2; what < 9; what++) due("ahead of any, what " + what, fresh.ran(what), NONE);
    }

    /** Prints 1, 2, .. n, for n of 10 to 50. */
    private static WrittenBench printing(int n) {
        WrittenBench x = of(o(SET, 0, 0), o(SET, 1, 1));
        for (int k = 0; k < 10; k++) add(x, 1, o(ADD, 0, 1), o(PRINT, 0));
        for (int k = 0; k < n / 10; k++) put(x, 0, CALL, 1);
        for (int k = 0; k < n % 10; k++) add(x, 0, o(ADD, 0, 1), o(PRINT, 0));
        return x;
    }

    private static void printedFirstForty() {
        says("PRINTED number i of it (the first 40); NONE.");
        for (int n : new int[] {39, 40, 41, 50}) {
            WrittenBench x = printing(n);
            due("ends", x.run(), 0);
            due("prints", x.ran(4), n);
            for (int i = 0; i < Math.min(n, 40); i++) due("of " + n + " number " + i, x.printed(i), i + 1);
            for (int i : new int[] {40, 41, 49, 50, MAX, -1, MIN}) due("of " + n + " number " + i, x.printed(i), NONE);
            due("of " + n + " number 39", x.printed(39), n < 40 ? NONE : 40);
            x.clear(1);
            due("what was printed stays", x.printed(38), 39);
            x.run();
            due("less", x.ran(4), n % 10);
            for (int i = n % 10; i < 41; i++) due("none behind the last: " + i, x.printed(i), NONE);
            due("the last", n % 10 == 0 ? NONE : x.printed(n % 10 - 1), n % 10 == 0 ? NONE : n % 10);
        }
        due("ahead of any", printing(40).printed(0), NONE);
        WrittenBench of255 = of(o(SET, 0, 255), o(PRINT, 0), o(PRINT, 1));
        of255.run();
        due("255", of255.printed(0), 255);
        due("0", of255.printed(1), 0);
    }

    private static void cellAtTheEnd() {
        says("A cell at the end of it, what 0: its number, 1: 1 if WRITTEN, else 0. NONE ahead of any, or without these.");
        WrittenBench x = of(o(SET, 0, 255), o(SET, 15, 0), o(ADD, 1, 0));
        for (int k = 0; k < 16; k++) due("ahead of any", x.cell(k, k & 1), NONE);
        x.run();
        cells(x, "at the end", 0, new int[] {255, 255, 0}, new int[] {1, 0, 0});
        cells(x, "at the end", 15, new int[] {0}, new int[] {1});
        for (int k : new int[] {-1, 16, 17, MIN, MAX}) {
            due("number of " + k, x.cell(k, 0), NONE);
            due("written " + k, x.cell(k, 1), NONE);
        }
        for (int what : new int[] {-1, 2, 3, MIN, MAX}) due("what " + what, x.cell(0, what), NONE);
        WrittenBench refused = of(o(SET, 0, 8), o(STORE, 1, 8, 0, 0), o(SET, 0, 9));
        refused.run();
        due("at the end of a REFUSED one", refused.cell(0, 0), 8);
        WrittenBench longOne = of(o(SET, 1, 1), o(ADD, 0, 1), o(SKIP, 2, -2));
        longOne.run();
        due("at the end of a long one", longOne.cell(0, 0), 500 % 256);
        WrittenBench deep = of(o(SET, 1, 1), o(ADD, 0, 1), o(CALL, 0));
        deep.run();
        due("at the end of a deep one", deep.cell(0, 0), 12);
    }
}
