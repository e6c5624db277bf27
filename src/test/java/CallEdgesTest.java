/** Promises 1, 3, 4 and 21, what a refused call leaves as it was, and the 512 calls of an object. */
public final class CallEdgesTest extends Check {
    private static final int[] FAR = {-1, 6, 7, 30, MIN, MAX};

    public static void main(String[] args) {
        newObject();
        change();
        clear();
        count();
        refusedCallsLeaveAllAsItWas();
        objectsAreApart();
        fiveHundredAndTwelveCalls();
        neverThrows();
        end("CallEdgesTest");
    }

    private static void newObject() {
        says("All FUNCTIONS empty, no INPUT.");
        WrittenBench x = new WrittenBench();
        for (int f = 0; f < 6; f++) due("FUNCTION " + f, x.count(10 + f), 0);
        due("INPUT", x.count(0), 0);
        due("none to be cleared", x.clear(0), 0);
        due("none to be emptied", x.empty(), 0);
        due("run", x.run(), 0);
        due("nothing done", x.ran(0), 0);
        says("The constants: `NONE = -1`: None.");
        due("NONE", WrittenBench.NONE, -1);
    }

    private static void change() {
        says("INSTRUCTION i of a FUNCTION is another one now: true; false, and nothing happens, for others.");
        WrittenBench x = new WrittenBench();
        for (int f = 0; f < 6; f++) due("of an empty one", turn(x, f, 0, READ, 0), false);
        for (int f = 0; f < 6; f++) due("still empty", x.count(10 + f), 0);
        add(x, 0, o(SET, 0, 1), o(SET, 1, 1), o(SET, 2, 1));
        put(x, 5, SET, 3, 1);
        for (int i : new int[] {-1, 3, 4, 29, 30, 31, -30, MIN, MAX}) due("INSTRUCTION " + i, turn(x, 0, i, SET, 9, 9), false);
        for (int f : FAR) due("FUNCTION " + f, turn(x, f, 0, SET, 9, 9), false);
        due("INSTRUCTION 1 of FUNCTION 5", turn(x, 5, 1, SET, 9, 9), false);
        x.run();
        due("nothing happened", x.ran(5), 3);
        due("the first", turn(x, 0, 0, SET, 0, 9), true);
        due("the last", turn(x, 0, 2, SET, 2, 8), true);
        due("of another one", turn(x, 5, 0, SET, 3, 7), true);
        x.run();
        due("the first is another", x.cell(0, 0), 9);
        due("the second stays", x.cell(1, 0), 1);
        due("the last is another", x.cell(2, 0), 8);
        due("as many as it had", x.count(10), 3);
        for (int k = 0; k < 29; k++) put(x, 5, SET, 3, 1);
        due("INSTRUCTION 29 of 30", turn(x, 5, 29, SET, 4, 4), true);
        due("INSTRUCTION 30 of 30", turn(x, 5, 30, SET, 4, 4), false);
        due("another op", turn(x, 0, 1, CALL, 5), true);
        x.run();
        due("it is called", x.cell(4, 0), 4);
        due("33 done", x.ran(0), 33);
    }

    private static void clear() {
        says("A FUNCTION is empty again: how many INSTRUCTIONS it had; NONE without it.");
        WrittenBench x = new WrittenBench();
        for (int f = 0; f < 6; f++) due("empty", x.clear(f), 0);
        for (int f = 0; f < 6; f++) for (int k = 0; k <= f; k++) put(x, f, SET, f, k + 1);
        for (int f : FAR) due("FUNCTION " + f, x.clear(f), NONE);
        for (int f = 0; f < 6; f++) due("nothing happened", x.count(10 + f), f + 1);
        due("FUNCTION 2", x.clear(2), 3);
        for (int f = 0; f < 6; f++) due("the others stay", x.count(10 + f), f == 2 ? 0 : f + 1);
        due("again", x.clear(2), 0);
        for (int k = 1; k <= 30; k++) put(x, 2, SET, 2, k);
        due("full", x.clear(2), 30);
        due("the first anew", put(x, 2, SET, 7, 7), 1);
        due("no second there", turn(x, 2, 1, SET, 7, 7), false);
        put(x, 0, CALL, 2);
        x.run();
        due("what it had is gone", x.cell(2, 1), 0);
        due("what it has is done", x.cell(7, 0), 7);
        due("FUNCTION 0 too", x.clear(0), 2);
        due("run", x.run(), 0);
        due("nothing done", x.ran(0), 0);
    }

    private static void count() {
        says("What 0: numbers of the INPUT; 10 + f: INSTRUCTIONS of a FUNCTION; 20 + f: COST of it. NONE for others.");
        WrittenBench x = new WrittenBench();
        for (int f = 0; f < 6; f++) {
            for (int k = 0; k < 30 - f; k++) put(x, f, READ, 0);
            x.cost(f, 99 - f);
        }
        for (int k = 1; k <= 16; k++) {
            x.input(k);
            due("INPUT", x.count(0), k);
        }
        for (int f = 0; f < 6; f++) {
            due("INSTRUCTIONS", x.count(10 + f), 30 - f);
            due("COST", x.count(20 + f), 99 - f);
        }
        for (int what : new int[] {-1, 1, 2, 5, 9, 16, 17, 19, 26, 27, 30, 36, -10, -20, MIN, MAX}) {
            due("what " + what, x.count(what), NONE);
        }
    }

    private static void refusedCallsLeaveAllAsItWas() {
        says("NONE, and nothing happens:");
        WrittenBench x = of(o(READ, 0), o(PRINT, 0), o(PRINT, 5), o(CALL, 1));
        put(x, 1, PRINT, 6);
        numbers(x, 9);
        x.cost(0, 4);
        x.run();
        due("mend", x.mend(), 5);
        refuse(x);
        due("latest run: done", x.ran(0), 5);
        due("latest run: bad", x.ran(1), 2);
        due("latest run: first", x.ran(3), 2);
        due("latest run: prints", x.ran(4), 3);
        due("latest run: printed", x.printed(0), 9);
        due("latest run: cell", x.cell(0, 0), 9);
        due("the flow", x.flow(), 2);
        due("a MEND", x.mended(0, 1), 5);
        due("its INPUT", x.count(0), 1);
        due("its INSTRUCTIONS", x.count(10), 4);
        due("its COST", x.count(20), 4);
        due("run again", x.run(), 0);
        due("as it was", x.printed(0), 9);
        due("its MENDS fit", x.apply(), true);
    }

    private static void refuse(WrittenBench x) {
        for (int f : FAR) {
            due("code", put(x, f, SET, 0, 0), NONE);
            due("change", turn(x, f, 0, SET, 0, 0), false);
            due("clear", x.clear(f), NONE);
            due("state", x.state(f, 0, 0), NONE);
            due("witness", x.witness(f, 0, 1), -2);
            due("needs", x.needs(f), NONE);
            due("writes", x.writes(f), NONE);
            due("cost", x.cost(f, 1), NONE);
        }
        due("code", put(x, 0, SET, 0, 256), NONE);
        due("change", turn(x, 0, 0, SET, 0, 256), false);
        due("change", turn(x, 0, 4, SET, 0, 0), false);
        due("input", x.input(256), NONE);
        due("cost", x.cost(0, 100), NONE);
        due("witness", x.witness(0, 2, 11), -2);
        due("ran", x.ran(6), NONE);
        due("count", x.count(3), NONE);
    }

    private static void objectsAreApart() {
        says("An object is used for at most 512 calls after it has been made");
        WrittenBench x = of(o(PRINT, 3));
        WrittenBench y = new WrittenBench();
        x.cost(0, 9);
        numbers(x, 1, 2);
        x.run();
        x.mend();
        due("no run of the other", y.ran(0), NONE);
        due("no INPUT of the other", y.count(0), 0);
        due("no INSTRUCTION of the other", y.count(10), 0);
        due("no COST of the other", y.count(20), 1);
        due("no MEND of the other", y.mended(0, 0), NONE);
        due("no BAD one of the other", y.flow(), 0);
        due("none to be done in the other", y.apply(), false);
        due("but in this one", x.apply(), true);
    }

    private static void fiveHundredAndTwelveCalls() {
        says("An object is used for at most 512 calls after it has been made");
        WrittenBench x = new WrittenBench();
        int calls = 0;
        for (int f = 0; f < 6; f++) {
            for (int k = 1; k <= 30; k++, calls++) due("code", put(x, f, k == 30 && f < 5 ? CALL : PRINT, k == 30 ? f + 1 : f), k);
        }
        for (int k = 1; k <= 16; k++, calls++) due("input", x.input(k), k);
        while (calls < 500) {
            due("run", x.run(), 0);
            due("done", x.ran(0), 180);
            due("bad", x.ran(1), 175);
            due("flow", x.flow(), 175);
            calls += 4;
        }
        due("mend", x.mend(), -2);
        due("clear", x.clear(3), 30);
        due("mend", x.mend(), 3);
        due("witness", x.witness(2, 28, 10), 0);
        due("needs", x.needs(0), 7);
        due("apply", x.apply(), false);
        due("clear", x.clear(0), 30);
        due("code", put(x, 0, CALL, 1), 1);
        due("mend", x.mend(), 2);
        due("apply", x.apply(), true);
        due("run", x.run(), 0);
        calls += 11;
        due("the 512th", x.ran(1), 0);
        due("calls", calls + 1, 512);
    }

    /** Of LANGUAGE.md: no call may ever throw, for any arguments in any state (also behind the 512th). */
    private static void neverThrows() {
        says("what later calls answer is free.");
        int[] odd = {MIN, -31, -2, -1, 0, 1, 5, 6, 10, 11, 12, 15, 16, 30, 31, 40, 255, 256, MAX};
        WrittenBench x = new WrittenBench();
        for (int p : odd) {
            for (int q : odd) {
                for (int r : odd) {
                    x.code(p, q, r, p, q, r);
                    x.code(0, q, r, p, 1, 0);
                    x.change(p, q, r, 0, p, q, r);
                    x.state(p, q, r);
                    x.witness(p, q, r);
                }
                x.cell(p, q);
                x.bad(p, q);
                x.mended(p, q);
                x.cost(p, q);
            }
            x.input(p);
            x.ran(p);
            x.printed(p);
            x.needs(p);
            x.writes(p);
            x.count(p);
            x.run();
            x.flow();
            x.mend();
            x.apply();
            if (p > 200) x.clear(p - 255);
            x.empty();
        }
        due("it still runs", x.run() >= 0, true);
    }
}
