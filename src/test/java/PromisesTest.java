/** Each promise of the document by hand: ordinary inputs, the edges that it names, and wrong inputs. */
public final class PromisesTest extends Check {
    public static void main(String[] args) {
        newObject();
        code();
        codeLimits();
        change();
        clear();
        input();
        runsEnd();
        runsCells();
        runsDepthAndLength();
        ran();
        printed();
        cell();
        flow();
        flowOfCalls();
        flowOfLateReturns();
        leftOvers();
        bad();
        state();
        stateOfEachOp();
        witness();
        needs();
        writes();
        cost();
        mend();
        mendLimits();
        mendThatCounts();
        mended();
        apply();
        applyRefuses();
        count();
        end("PromisesTest");
    }

    // Promise 1
    private static void newObject() {
        due("1 NONE", WrittenBench.NONE, -1);
        WrittenBench x = new WrittenBench();
        due("1 input", x.count(0), 0);
        for (int f = 0; f < 6; f++) {
            due("1 length " + f, x.count(10 + f), 0);
            due("1 cost " + f, x.count(20 + f), 1);
        }
        due("1 flow", x.flow(), 0);
        due("1 ran", x.ran(0), -1);
        due("1 printed", x.printed(0), -1);
        due("1 cell", x.cell(0, 0), -1);
        due("1 mended", x.mended(0, 0), -1);
        due("1 apply", x.apply(), false);
        due("1 state of the end", x.state(0, 0, 3), 2);
        due("1 state of what is not come to", x.state(1, 0, 3), 0);
    }

    // Promise 2
    private static void code() {
        int[][] right = {
            {SET, 0, 0, 0, 0}, {SET, 15, 255, 0, 0}, {COPY, 0, 8, 8, 0}, {COPY, 15, 15, 1, 0}, {ADD, 15, 0, 0, 0},
            {READ, 15, 0, 0, 0}, {PRINT, 15, 0, 0, 0}, {SKIP, 15, -30, 0, 0}, {SKIP, 0, 30, 0, 0},
            {STORE, 8, 8, 15, 15}, {STORE, 15, 1, 0, 0}, {LOAD, 15, 8, 8, 15}, {LOAD, 0, 15, 1, 0}, {CALL, 5, 0, 0, 0},
            {CALL, 0, 0, 0, 0}, {RETURN, 0, 0, 0, 0}, {FREE, 8, 8, 0, 0}, {OUTSIDE, 8, 8, 0, 0}, {FREE, 15, 1, 0, 0}};
        WrittenBench x = new WrittenBench();
        for (int k = 0; k < right.length; k++) {
            int[] o = right[k];
            due("2 right " + k, x.code(5, o[0], o[1], o[2], o[3], o[4]), k + 1);
        }
        int[][] off = {
            {-1, 0, 0, 0, 0}, {12, 0, 0, 0, 0}, {MAX, 0, 0, 0, 0}, {MIN, 0, 0, 0, 0},
            {SET, -1, 0, 0, 0}, {SET, 16, 0, 0, 0}, {SET, 0, -1, 0, 0}, {SET, 0, 256, 0, 0}, {SET, 0, 0, 1, 0}, {SET, 0, 0, 0, 1},
            {COPY, 0, 0, 0, 0}, {COPY, 0, 0, 9, 0}, {COPY, 9, 0, 8, 0}, {COPY, 0, 9, 8, 0}, {COPY, -1, 0, 1, 0},
            {COPY, 0, -1, 1, 0}, {COPY, 16, 0, 1, 0}, {COPY, 0, 0, 1, 1}, {COPY, MAX, 0, 1, 0}, {COPY, 0, MAX, 8, 0}, {COPY, 0, 0, MAX, 0},
            {ADD, 16, 0, 0, 0}, {ADD, 0, 16, 0, 0}, {ADD, 0, -1, 0, 0}, {ADD, 0, 0, 1, 0}, {ADD, 0, 0, 0, -1},
            {READ, 16, 0, 0, 0}, {READ, 0, 1, 0, 0}, {READ, 0, 0, 1, 0}, {READ, 0, 0, 0, 1},
            {PRINT, -1, 0, 0, 0}, {PRINT, 0, 1, 0, 0}, {SKIP, 0, 31, 0, 0}, {SKIP, 0, -31, 0, 0}, {SKIP, 16, 0, 0, 0}, {SKIP, 0, 0, 1, 0},
            {STORE, 0, 0, 0, 0}, {STORE, 0, 9, 0, 0}, {STORE, 9, 8, 0, 0}, {STORE, 0, 1, 16, 0}, {STORE, 0, 1, 0, 16}, {STORE, 0, 1, -1, 0},
            {STORE, MAX, 8, 0, 0}, {LOAD, 16, 0, 1, 0}, {LOAD, 0, 9, 8, 0}, {LOAD, 0, 0, 0, 0}, {LOAD, 0, 0, 9, 0}, {LOAD, 0, 0, 1, 16},
            {CALL, 6, 0, 0, 0}, {CALL, -1, 0, 0, 0}, {CALL, 0, 1, 0, 0}, {RETURN, 1, 0, 0, 0}, {RETURN, 0, 0, 0, 1},
            {FREE, 0, 0, 0, 0}, {FREE, 0, 9, 0, 0}, {FREE, 9, 8, 0, 0}, {FREE, 0, 1, 1, 0}, {FREE, MAX, 1, 0, 0},
            {OUTSIDE, 0, 0, 0, 0}, {OUTSIDE, 9, 8, 0, 0}, {OUTSIDE, 0, 1, 0, 1}};
        for (int k = 0; k < off.length; k++) {
            int[] o = off[k];
            due("2 off " + k, x.code(5, o[0], o[1], o[2], o[3], o[4]), -1);
            due("3 off " + k, x.change(5, 0, o[0], o[1], o[2], o[3], o[4]), false);
        }
        due("2 nothing happened", x.count(15), right.length);
    }

    private static void codeLimits() {
        WrittenBench x = new WrittenBench();
        for (int f : new int[] {-1, 6, MIN, MAX}) due("2 no such function", put(x, f, READ, 0), -1);
        for (int k = 1; k <= 30; k++) due("2 up to 30", put(x, 3, READ, 0), k);
        due("2 the 31st", put(x, 3, READ, 0), -1);
        due("2 still 30", x.count(13), 30);
        due("2 another function", put(x, 4, READ, 0), 1);
    }

    // Promise 3
    private static void change() {
        WrittenBench x = new WrittenBench();
        due("3 empty", x.change(0, 0, READ, 0, 0, 0, 0), false);
        put(x, 0, SET, 1, 7);
        put(x, 0, PRINT, 2);
        due("3 right", x.change(0, 1, PRINT, 1, 0, 0, 0), true);
        due("3 run", x.run(), 0);
        due("3 not bad", x.ran(1), 0);
        due("3 prints", x.printed(0), 7);
        due("3 behind the last", x.change(0, 2, READ, 0, 0, 0, 0), false);
        due("3 below 0", x.change(0, -1, READ, 0, 0, 0, 0), false);
        due("3 function -1", x.change(-1, 0, READ, 0, 0, 0, 0), false);
        due("3 function 6", x.change(6, 0, READ, 0, 0, 0, 0), false);
        due("3 far", x.change(MAX, MAX, READ, 0, 0, 0, 0), false);
        due("3 length stays", x.count(10), 2);
    }

    // Promise 4
    private static void clear() {
        WrittenBench x = new WrittenBench();
        put(x, 2, READ, 0);
        put(x, 2, PRINT, 0);
        put(x, 3, READ, 0);
        x.cost(2, 9);
        due("4 two", x.clear(2), 2);
        due("4 empty again", x.clear(2), 0);
        due("4 the other stays", x.count(13), 1);
        due("4 the cost stays", x.count(22), 9);
        due("4 function 6", x.clear(6), -1);
        due("4 function -1", x.clear(-1), -1);
        due("4 begins anew", put(x, 2, READ, 0), 1);
    }

    // Promises 5 and 6
    private static void input() {
        WrittenBench x = new WrittenBench();
        due("5 -1", x.input(-1), -1);
        due("5 256", x.input(256), -1);
        for (int k = 1; k <= 16; k++) due("5 up to 16", x.input(k == 1 ? 0 : 255), k);
        due("5 the 17th", x.input(0), -1);
        due("5 still 16", x.count(0), 16);
        due("6 had", x.empty(), 16);
        due("6 again", x.empty(), 0);
        due("6 count", x.count(0), 0);
        due("5 anew", x.input(3), 1);
    }

    // Promise 7
    private static void runsEnd() {
        WrittenBench x = new WrittenBench();
        due("7 empty program", x.run(), 0);
        due("7 nothing done", x.ran(0), 0);
        put(x, 0, READ, 0);
        put(x, 0, STORE, 4, 3, 0, 0);
        put(x, 0, RETURN);
        put(x, 0, PRINT, 9);
        x.input(2);
        due("7 v 2 below 3", x.run(), 0);
        due("7 RETURN is an instruction", x.ran(0), 3);
        due("7 stored", x.cell(6, 0), 2);
        x.empty();
        x.input(3);
        due("7 v 3 is refused", x.run(), 1);
        due("8 the refused STORE is not done", x.ran(0), 1);
        due("8 its use is no bad one", x.ran(1), 0);
        due("7 nothing stored", x.ran(5), 1);
        x.change(0, 1, LOAD, 4, 5, 3, 0);
        due("7 LOAD is refused", x.run(), 1);
        due("8 the refused LOAD is not done", x.ran(0), 1);
        x.change(0, 0, COPY, 0, 0, 1, 0);
        due("7 unwritten v", x.run(), 0);
        due("7 its use is bad", x.ran(1), 1);
        x.change(0, 0, SET, 1, 200, 0, 0);
        x.change(0, 1, ADD, 0, 1, 0, 0);
        x.change(0, 2, LOAD, 4, 5, 8, 0);
        due("7 refused with an unwritten v", x.run(), 1);
        due("7 the use counts", x.ran(1), 1);
        due("7 where", x.ran(3), 2);
        due("8 the LOAD is not done, though its use counts", x.ran(0), 2);
        x.change(0, 2, STORE, 4, 8, 0, 5);
        due("7 so is a STORE", x.run(), 1);
        due("8 the use of the STORE counts", x.ran(1), 1);
        due("8 the STORE is not done", x.ran(0), 2);
        due("14 the use of a refused one shows", x.witness(0, 2, 1), 0);
    }

    private static void runsCells() {
        WrittenBench x = new WrittenBench();
        put(x, 0, OUTSIDE, 0, 2);
        put(x, 0, SET, 2, 250);
        put(x, 0, COPY, 1, 0, 4);
        put(x, 0, ADD, 3, 3);
        put(x, 0, FREE, 0, 1);
        put(x, 0, ADD, 0, 3);
        put(x, 0, ADD, 3, 0);
        due("7 run", x.run(), 0);
        int[] number = {244, 1, 1, 232, 0};
        int[] written = {0, 1, 1, 0, 0};
        for (int k = 0; k < 5; k++) {
            due("7 number of " + k, x.cell(k, 0), number[k]);
            due("7 written " + k, x.cell(k, 1), written[k]);
        }
        WrittenBench y = new WrittenBench();
        put(y, 0, READ, 0);
        put(y, 0, READ, 1);
        put(y, 0, STORE, 4, 8, 0, 9);
        put(y, 0, LOAD, 2, 4, 8, 0);
        put(y, 0, LOAD, 3, 0, 2, 9);
        put(y, 0, PRINT, 2);
        put(y, 0, PRINT, 3);
        y.input(7);
        due("7 run", y.run(), 0);
        due("7 a copy of what is unwritten is no bad use", y.ran(1), 2);
        due("7 the first is the index", y.ran(3), 4);
        due("7 a number behind the last is 0", y.cell(1, 0), 0);
        due("7 and is written", y.cell(1, 1), 1);
        due("7 copy of cell 9", y.cell(2, 1), 0);
        due("7 loaded cell 0", y.cell(3, 0), 7);
        due("7 prints", y.printed(1), 7);
        y.run();
        due("7 each run reads from the first", y.cell(0, 0), 7);
    }

    private static void runsDepthAndLength() {
        WrittenBench x = new WrittenBench();
        put(x, 0, SKIP, 0, -1);
        due("7 skip to itself", x.run(), 2);
        due("7 1000 done", x.ran(0), 1000);
        due("7 bad each time", x.ran(1), 1000);
        WrittenBench y = new WrittenBench();
        put(y, 0, CALL, 0);
        due("7 a call with 12 open", y.run(), 3);
        due("8 the call that finds 12 open is not done", y.ran(0), 11);
        WrittenBench z = new WrittenBench();
        for (int k = 0; k < 10; k++) put(z, 0, CALL, 1);
        for (int k = 0; k < 10; k++) put(z, 1, CALL, 2);
        for (int k = 0; k < 8; k++) put(z, 2, SET, 0, k);
        put(z, 0, READ, 1);
        // 11 in FUNCTION 0, 10 times 10 calls of FUNCTION 2, 100 times 8 in it: 911; 89 are left.
        for (int k = 0; k < 19; k++) put(z, 0, READ, 1);
        due("7 930", z.run(), 0);
        due("7 930 done", z.ran(0), 930);
        for (int k = 0; k < 7; k++) put(z, 1, READ, 1);
        due("7 1000 done and the end is no instruction", z.run(), 0);
        due("7 1000", z.ran(0), 1000);
        z.change(0, 29, CALL, 2, 0, 0, 0);
        due("7 one more would be", z.run(), 2);
        due("7 1000 again", z.ran(0), 1000);
        z.change(0, 29, STORE, 4, 7, 0, 5);
        due("7 refused as the 1000th", z.run(), 1);
        due("8 999 are done", z.ran(0), 999);
        put(z, 3, READ, 1);
        z.change(0, 28, CALL, 3, 0, 0, 0);
        due("7 1000 are done ahead of it", z.run(), 2);
        due("8 1000 once more", z.ran(0), 1000);
        WrittenBench s = new WrittenBench();
        put(s, 0, SET, 1, 5);
        put(s, 0, SKIP, 0, -3);
        put(s, 0, PRINT, 1);
        due("7 a place below 0 is the end", s.run(), 0);
        due("7 2 done", s.ran(0), 2);
        s.change(0, 1, SKIP, 0, 30, 0, 0);
        due("7 behind the last", s.run(), 0);
        due("7 2 done again", s.ran(0), 2);
        s.change(0, 1, SKIP, 1, -3, 0, 0);
        s.run();
        due("7 no skip if not 0", s.ran(0), 3);
    }

    // Promise 8
    private static void ran() {
        WrittenBench x = new WrittenBench();
        for (int what = -1; what < 8; what++) due("8 ahead of any", x.ran(what), -1);
        put(x, 0, OUTSIDE, 0, 3);
        x.run();
        int[] want = {1, 0, -1, -1, 0, 3};
        for (int what = 0; what < 6; what++) due("8 what " + what, x.ran(what), want[what]);
        put(x, 0, CALL, 4);
        put(x, 0, PRINT, 6);
        put(x, 4, PRINT, 1);
        put(x, 4, PRINT, 5);
        x.run();
        int[] then = {5, 2, 4, 1, 3, 3};
        for (int what = 0; what < 6; what++) due("8 then what " + what, x.ran(what), then[what]);
        due("8 what 6", x.ran(6), -1);
        due("8 what -1", x.ran(-1), -1);
        x.clear(0);
        x.witness(4, 0, 3);
        due("8 of the latest run", x.ran(0), 5);
    }

    // Promise 9
    private static void printed() {
        WrittenBench x = new WrittenBench();
        put(x, 0, SET, 1, 1);
        put(x, 0, ADD, 0, 1);
        put(x, 0, PRINT, 0);
        put(x, 0, SKIP, 2, -3);
        due("9 ahead of any", x.printed(0), -1);
        due("9 run", x.run(), 2);
        due("9 all count", x.ran(4), 333);
        due("9 first", x.printed(0), 1);
        due("9 the 40th", x.printed(39), 40);
        due("9 the 41st", x.printed(40), -1);
        due("9 -1", x.printed(-1), -1);
        x.clear(0);
        x.run();
        due("9 of the latest", x.printed(0), -1);
    }

    // Promise 10
    private static void cell() {
        WrittenBench x = new WrittenBench();
        due("10 ahead of any", x.cell(0, 1), -1);
        put(x, 0, SET, 15, 9);
        x.run();
        x.clear(0);
        due("10 number", x.cell(15, 0), 9);
        due("10 written", x.cell(15, 1), 1);
        due("10 not written", x.cell(0, 1), 0);
        due("10 what 2", x.cell(0, 2), -1);
        due("10 what -1", x.cell(0, -1), -1);
        due("10 cell 16", x.cell(16, 0), -1);
        due("10 cell -1", x.cell(-1, 0), -1);
    }

    // Promise 11
    private static void flow() {
        WrittenBench x = new WrittenBench();
        put(x, 0, READ, 0);
        put(x, 0, SKIP, 0, 1);
        put(x, 0, SET, 1, 3);
        put(x, 0, PRINT, 1);
        put(x, 0, COPY, 2, 3, 1);
        put(x, 0, PRINT, 2);
        put(x, 0, RETURN);
        put(x, 0, PRINT, 5);
        put(x, 1, PRINT, 5);
        due("11 a MAYBE and a SURE one; nothing behind RETURN or in what no one calls", x.flow(), 2);
        put(x, 5, PRINT, 5);
        x.change(0, 6, CALL, 5, 0, 0, 0);
        due("11 with the call", x.flow(), 4);
        x.change(0, 6, RETURN, 0, 0, 0, 0);
        due("11 as it is now", x.flow(), 2);
    }

    private static void flowOfCalls() {
        WrittenBench x = new WrittenBench();
        put(x, 0, CALL, 1);
        put(x, 0, SET, 0, 1);
        put(x, 0, CALL, 1);
        put(x, 0, PRINT, 0);
        put(x, 1, SET, 1, 1);
        due("11 what returns goes behind each call", x.state(0, 3, 0), 3);
        due("11 so it is maybe bad", x.flow(), 1);
        due("11 behind the first", x.state(0, 1, 0), 3);
        due("11 written by the function", x.state(0, 1, 1), 1);
        put(x, 1, CALL, 1);
        due("11 what never returns goes on nowhere", x.state(0, 1, 0), 0);
        due("11 no use is come to", x.flow(), 0);
        x.change(1, 1, SKIP, 1, 5, 0, 0);
        due("11 returns by a skip too", x.state(0, 1, 0), 3);
    }

    private static void flowOfLateReturns() {
        // Written comes to the RETURN only by two skips back, when all else stands still already.
        WrittenBench x = new WrittenBench();
        put(x, 0, CALL, 1);
        put(x, 1, SKIP, 0, 3);
        put(x, 1, RETURN);
        put(x, 1, SKIP, 0, -2);
        put(x, 1, FREE, 1, 1);
        put(x, 1, SET, 1, 1);
        put(x, 1, SKIP, 0, -4);
        put(x, 1, FREE, 1, 1);
        due("11 what returns late", x.state(0, 1, 1), 3);
    }

    /** What a function had ahead of clear() must not be seen any more. */
    private static void leftOvers() {
        WrittenBench x = new WrittenBench();
        put(x, 0, READ, 0);
        put(x, 0, SKIP, 5, -4);
        put(x, 0, PRINT, 6);
        x.clear(0);
        due("11 empty again", x.flow(), 0);
        due("12 empty again", x.bad(0, 1), -1);
        due("15 empty again", x.needs(0), 0);
        due("18 empty again", x.mend(), 0);
        put(x, 0, PRINT, 3);
        due("12 one alone", x.bad(1, 1), -1);
        due("15 one alone", x.needs(0), 1 << 3);
        due("18 one alone", x.mend(), 1);
        due("20 the skip is gone", x.apply(), true);
        // FUNCTION 5 full, and come to at its end
        WrittenBench y = new WrittenBench();
        put(y, 0, CALL, 5);
        for (int k = 0; k < 30; k++) put(y, 5, PRINT, 0);
        due("11 full", y.flow(), 30);
        due("12 full", y.bad(29, 1), 29);
        due("12 behind", y.bad(30, 1), -1);
        due("13 full", y.state(5, 30, 0), 2);
        due("14 full", y.witness(5, 29, 1), 0);
        due("15 full", y.needs(5), 1);
        due("18 full", y.mend(), 1);
        due("20 full", y.apply(), true);
        y.change(0, 0, FREE, 0, 1, 0, 0);
        due("18 in FUNCTION 5", y.mend(), 1);
        due("20 full, so refused", y.apply(), false);
    }

    // Promise 12
    private static void bad() {
        WrittenBench x = new WrittenBench();
        put(x, 0, CALL, 1);
        put(x, 0, LOAD, 0, 0, 2, 9);
        put(x, 1, SKIP, 8, 1);
        put(x, 1, SET, 7, 0);
        put(x, 1, STORE, 0, 2, 7, 3);
        int[][] want = {{0, 1, 9, 1}, {1, 0, 8, 1}, {1, 2, 7, 2}};
        for (int k = 0; k < 3; k++) {
            for (int what = 0; what < 4; what++) due("12 bad " + k + " " + what, x.bad(k, what), want[k][what]);
        }
        due("12 k 3", x.bad(3, 0), -1);
        due("12 k -1", x.bad(-1, 0), -1);
        due("12 what 4", x.bad(0, 4), -1);
        due("12 what -1", x.bad(0, -1), -1);
        x.change(0, 1, SET, 0, 0, 0, 0);
        due("12 by the program as it is", x.bad(0, 0), 1);
    }

    // Promise 13
    private static void state() {
        WrittenBench x = new WrittenBench();
        put(x, 0, SKIP, 0, 2);
        put(x, 0, SET, 1, 1);
        put(x, 0, RETURN);
        put(x, 0, SET, 2, 1);
        due("13 first", x.state(0, 0, 1), 2);
        due("13 as it is come to", x.state(0, 1, 1), 2);
        due("13 behind SET", x.state(0, 2, 1), 1);
        due("13 by the skip alone", x.state(0, 3, 1), 2);
        due("13 the end, where RETURN does not come", x.state(0, 4, 1), 2);
        due("13 the end", x.state(0, 4, 2), 1);
        due("13 behind the end", x.state(0, 5, 0), -1);
        due("13 below 0", x.state(0, -1, 0), -1);
        due("13 cell 16", x.state(0, 0, 16), -1);
        due("13 cell -1", x.state(0, 0, -1), -1);
        due("13 function 6", x.state(6, 0, 0), -1);
        due("13 function -1", x.state(-1, 0, 0), -1);
        due("13 not come to", x.state(3, 0, 0), 0);
        x.change(0, 3, SKIP, 1, -30, 0, 0);
        due("13 a skip below 0 comes to the end", x.state(0, 4, 2), 2);
        x.change(0, 2, SKIP, 5, -3, 0, 0);
        due("13 what a skip back brings", x.state(0, 0, 1), 3);
    }

    private static void stateOfEachOp() {
        WrittenBench x = new WrittenBench();
        put(x, 0, READ, 0);
        put(x, 0, SKIP, 0, 1);
        put(x, 0, SET, 1, 1); // from here on: 0 written, 1 both, 2 not
        put(x, 0, ADD, 0, 1);
        due("13 ADD of written and both", x.state(0, 4, 0), 3);
        x.change(0, 3, ADD, 1, 2, 0, 0);
        due("13 ADD of both and not", x.state(0, 4, 1), 2);
        x.change(0, 3, ADD, 0, 0, 0, 0);
        due("13 ADD of written", x.state(0, 4, 0), 1);
        x.change(0, 3, COPY, 1, 0, 2, 0);
        due("13 COPY looks ahead", x.state(0, 4, 1), 1);
        due("13 COPY of both", x.state(0, 4, 2), 3);
        x.change(0, 3, STORE, 1, 1, 0, 0);
        due("13 STORE with n 1", x.state(0, 4, 1), 1);
        x.change(0, 3, STORE, 1, 2, 0, 0);
        due("13 STORE, what it could be", x.state(0, 4, 1), 3);
        due("13 STORE with n 2", x.state(0, 4, 2), 3);
        due("13 STORE no further", x.state(0, 4, 3), 2);
        x.change(0, 3, STORE, 0, 2, 0, 2);
        due("13 STORE of not", x.state(0, 4, 0), 3);
        x.change(0, 3, LOAD, 5, 0, 3, 0);
        due("13 LOAD of any", x.state(0, 4, 5), 3);
        x.change(0, 3, LOAD, 5, 0, 1, 0);
        due("13 LOAD with n 1", x.state(0, 4, 5), 1);
        x.change(0, 3, LOAD, 0, 2, 2, 0);
        due("13 LOAD of not", x.state(0, 4, 0), 2);
        x.change(0, 3, FREE, 0, 2, 0, 0);
        due("13 FREE", x.state(0, 4, 1), 2);
        x.change(0, 3, OUTSIDE, 1, 2, 0, 0);
        due("13 OUTSIDE", x.state(0, 4, 1), 1);
        due("13 OUTSIDE row", x.state(0, 4, 2), 1);
        due("13 OUTSIDE no further", x.state(0, 4, 3), 2);
    }

    // Promise 14
    private static void witness() {
        WrittenBench x = new WrittenBench();
        put(x, 0, READ, 0);
        put(x, 0, READ, 1);
        put(x, 0, READ, 2);
        put(x, 0, SET, 3, 0);
        put(x, 0, SKIP, 0, 4); // bits 0 and 2 must be 1
        put(x, 0, SKIP, 2, 3);
        put(x, 0, PRINT, 3);
        put(x, 0, PRINT, 9);
        put(x, 0, RETURN);
        due("14 the least", x.witness(0, 7, 3), 5);
        due("14 longer", x.witness(0, 7, 10), 5);
        due("14 too short", x.witness(0, 7, 2), -1);
        due("14 right use", x.witness(0, 6, 3), -1);
        due("14 no use", x.witness(0, 0, 3), -1);
        due("14 the end is no instruction", x.witness(0, 9, 3), -2);
        due("14 L 0", x.witness(0, 7, 0), -2);
        due("14 L 11", x.witness(0, 7, 11), -2);
        due("14 function 6", x.witness(6, 0, 1), -2);
        due("14 function -1", x.witness(-1, 0, 1), -2);
        due("14 instruction -1", x.witness(0, -1, 1), -2);
        due("14 no run happened", x.ran(0), -1);
        WrittenBench y = new WrittenBench();
        put(y, 0, SET, 1, 10);
        put(y, 0, SET, 2, 255);
        put(y, 0, READ, 0); // ten ones in a row come to the print
        put(y, 0, SKIP, 0, 4);
        put(y, 0, ADD, 1, 2);
        put(y, 0, SKIP, 1, 1);
        put(y, 0, SKIP, 3, -5);
        put(y, 0, PRINT, 4);
        put(y, 0, RETURN);
        due("14 all of ten bits", y.witness(0, 7, 10), 1023);
        due("14 not with nine", y.witness(0, 7, 9), -1);
        due("14 the skip by what is unwritten", y.witness(0, 6, 4), 1);
        due("14 a call not come to", y.witness(0, 8, 1), -1);
    }

    // Promise 15
    private static void needs() {
        WrittenBench x = new WrittenBench();
        put(x, 1, COPY, 2, 3, 1);
        put(x, 1, PRINT, 2);
        put(x, 1, SET, 4, 1);
        put(x, 1, PRINT, 4);
        put(x, 1, SKIP, 5, 0);
        put(x, 1, CALL, 2);
        put(x, 2, PRINT, 15);
        due("15 through a copy and a call", x.needs(1), 1 << 3 | 1 << 5 | 1 << 15);
        due("15 the called one", x.needs(2), 1 << 15);
        due("15 an empty one", x.needs(3), 0);
        due("15 function 6", x.needs(6), -1);
        due("15 function -1", x.needs(-1), -1);
        put(x, 3, FREE, 6, 1);
        put(x, 3, PRINT, 6);
        due("15 what is bad anyhow", x.needs(3), 0);
        put(x, 4, SKIP, 0, 1);
        put(x, 4, FREE, 1, 1);
        put(x, 4, PRINT, 1);
        due("15 SURE and not MAYBE is another", x.needs(4), 3);
        put(x, 5, PRINT, 0);
        put(x, 5, CALL, 5);
        due("15 it never returns", x.needs(5), 1);
    }

    // Promise 16
    private static void writes() {
        WrittenBench x = new WrittenBench();
        put(x, 1, SET, 0, 1);
        put(x, 1, SKIP, 0, 1);
        put(x, 1, READ, 1);
        put(x, 1, OUTSIDE, 14, 2);
        due("16 what is written on all ways", x.writes(1), 1 | 1 << 14 | 1 << 15);
        put(x, 2, CALL, 1);
        put(x, 2, FREE, 14, 1);
        due("16 through a call", x.writes(2), 1 | 1 << 15);
        put(x, 3, SKIP, 0, 1);
        put(x, 3, RETURN);
        put(x, 3, SET, 0, 1);
        due("16 RETURN ahead of it", x.writes(3), 0);
        put(x, 4, SET, 0, 1);
        put(x, 4, CALL, 4);
        due("16 nothing returns", x.writes(4), 0);
        due("16 empty", x.writes(5), 0);
        due("16 function 6", x.writes(6), -1);
        due("16 function -1", x.writes(-1), -1);
    }

    // Promise 17
    private static void cost() {
        WrittenBench x = new WrittenBench();
        due("17 at first", x.cost(5, 99), 1);
        due("17 then", x.cost(5, 1), 99);
        due("17 0 coins", x.cost(5, 0), -1);
        due("17 100 coins", x.cost(5, 100), -1);
        due("17 function 6", x.cost(6, 5), -1);
        due("17 function -1", x.cost(-1, 5), -1);
        due("17 nothing happened", x.count(25), 1);
        due("17 the others", x.count(20), 1);
    }

    // Promise 18
    private static void mend() {
        WrittenBench x = new WrittenBench();
        due("18 empty program", x.mend(), 0);
        put(x, 0, CALL, 1);
        put(x, 0, CALL, 2);
        put(x, 1, PRINT, 3);
        put(x, 2, PRINT, 3);
        due("18 one at the begin", x.mend(), 1);
        due("18 function", x.mended(0, 0), 0);
        due("18 cell", x.mended(0, 1), 3);
        due("18 no other", x.mended(1, 0), -1);
        // A mend of FUNCTION 1 is written behind its call too, so FUNCTION 2 needs none of its own.
        x.cost(0, 10);
        due("18 the called one", x.mend(), 1);
        due("18 which", x.mended(0, 0), 1);
        x.cost(1, 10);
        due("18 of several the least number", x.mend(), 10);
        due("18 which", x.mended(0, 0), 0);
        put(x, 0, FREE, 3, 1);
        put(x, 0, PRINT, 3);
        due("18 none do", x.mend(), -1);
        due("18 mended stays", x.mended(0, 0), 0);
    }

    private static void mendLimits() {
        WrittenBench x = new WrittenBench();
        for (int k = 0; k < 12; k++) put(x, 0, PRINT, k);
        x.cost(0, 99);
        due("18 twelve", x.mend(), 12 * 99);
        for (int k = 0; k < 12; k++) due("18 cell " + k, x.mended(k, 1), k);
        put(x, 0, PRINT, 15);
        due("18 SPENT", x.mend(), -2);
        due("18 mended stays", x.mended(11, 1), 11);
        due("18 mended stays twelve", x.mended(12, 1), -1);
        put(x, 0, FREE, 0, 1);
        put(x, 0, PRINT, 0);
        due("18 SPENT though none do", x.mend(), -2);
        x.clear(0);
        due("18 no use", x.mend(), 0);
        due("18 none now", x.mended(0, 0), -1);
    }

    private static void mendThatCounts() {
        // A skip back to the first instruction brings what a FREE left: a mend at the begin is no help there.
        WrittenBench x = new WrittenBench();
        put(x, 0, PRINT, 1);
        put(x, 0, FREE, 1, 1);
        put(x, 0, SKIP, 1, -3);
        due("18 what a skip brings stays", x.mend(), -1);
        x.change(0, 1, SET, 1, 0, 0, 0);
        due("18 else it helps", x.mend(), 1);
        // A begin that a written cell comes to as well has no mend.
        WrittenBench y = new WrittenBench();
        put(y, 0, CALL, 1);
        put(y, 0, SET, 2, 1);
        put(y, 0, CALL, 1);
        put(y, 1, PRINT, 2);
        y.cost(0, 50);
        due("18 only at FUNCTION 0", y.mend(), 50);
        // A FREE ahead of the call: only the begin of the called one helps.
        WrittenBench z = new WrittenBench();
        put(z, 0, FREE, 2, 1);
        put(z, 0, CALL, 1);
        put(z, 1, PRINT, 2);
        z.cost(1, 50);
        due("18 behind the FREE", z.mend(), 50);
        due("18 in FUNCTION 1", z.mended(0, 0), 1);
        // Cells whose FREE in between cuts the way do not count, so these are not more than 12.
        WrittenBench u = new WrittenBench();
        put(u, 0, FREE, 0, 8);
        put(u, 0, FREE, 8, 8);
        for (int k = 0; k < 12; k++) put(u, 1, PRINT, k);
        put(u, 0, CALL, 1);
        due("18 twelve that count", u.mend(), 12);
        due("18 all in FUNCTION 1", u.mended(0, 0), 1);
        // What is not come to has no mends and needs none.
        WrittenBench v = new WrittenBench();
        for (int k = 0; k < 16; k++) put(v, 3, PRINT, k);
        due("18 not come to", v.mend(), 0);
    }

    // Promise 19
    private static void mended() {
        WrittenBench x = new WrittenBench();
        due("19 ahead of any", x.mended(0, 0), -1);
        put(x, 0, PRINT, 7);
        put(x, 0, PRINT, 2);
        due("19 cost", x.mend(), 2);
        due("19 by cells", x.mended(0, 1), 2);
        due("19 by cells", x.mended(1, 1), 7);
        due("19 function", x.mended(1, 0), 0);
        due("19 k 2", x.mended(2, 0), -1);
        due("19 k -1", x.mended(-1, 0), -1);
        due("19 what 2", x.mended(0, 2), -1);
        due("19 what -1", x.mended(0, -1), -1);
        x.clear(0);
        due("19 also when the program was changed", x.mended(1, 1), 7);
    }

    // Promise 20
    private static void apply() {
        WrittenBench x = new WrittenBench();
        put(x, 0, PRINT, 7);
        put(x, 0, SKIP, 2, -2);
        put(x, 0, CALL, 1);
        put(x, 1, FREE, 0, 1);
        put(x, 1, CALL, 2);
        put(x, 2, PRINT, 0);
        due("20 cost", x.mend(), 3);
        due("20 done", x.apply(), true);
        due("20 length of 0", x.count(10), 5);
        due("20 length of 1", x.count(11), 2);
        due("20 length of 2", x.count(12), 2);
        due("20 none is bad", x.flow(), 0);
        due("20 the first SET is of cell 2", x.state(0, 1, 2), 1);
        due("20 the second one not yet", x.state(0, 1, 7), 2);
        due("20 the second SET is of cell 7", x.state(0, 2, 7), 1);
        due("20 not twice", x.apply(), false);
        due("20 mended stays", x.mended(2, 0), 2);
        due("20 nothing to mend", x.mend(), 0);
        due("20 none to be done", x.apply(), false);
        due("20 the skip stays", x.run(), 2);
        due("20 no bad use", x.ran(1), 0);
        due("20 what is set is 0", x.printed(0), 0);
    }

    private static void applyRefuses() {
        WrittenBench x = new WrittenBench();
        due("20 no mend yet", x.apply(), false);
        for (int k = 0; k < 29; k++) put(x, 0, PRINT, k % 2);
        due("20 two", x.mend(), 2);
        due("20 more than 30", x.apply(), false);
        due("20 nothing happened", x.count(10), 29);
        x.change(0, 28, SET, 3, 0, 0, 0);
        for (int k = 0; k < 28; k++) x.change(0, k, PRINT, 1, 0, 0, 0);
        due("20 one", x.mend(), 1);
        x.input(1);
        x.cost(0, 7);
        due("20 just 30; cost and input are not the program", x.apply(), true);
        due("20 30", x.count(10), 30);
        WrittenBench y = new WrittenBench();
        put(y, 0, SKIP, 0, -2);
        due("20 cost", y.mend(), 1);
        due("20 a skip to below 0", y.apply(), false);
        due("20 nothing happened", y.count(10), 1);
        y.change(0, 0, SKIP, 0, -1, 0, 0);
        due("20 changed since", y.apply(), false);
        y.mend();
        due("20 a skip to 0", y.apply(), true);
        WrittenBench z = new WrittenBench();
        put(z, 0, CALL, 1);
        put(z, 0, PRINT, 3);
        put(z, 1, SET, 0, 0);
        put(z, 1, SKIP, 0, -3);
        due("20 cost", z.mend(), 1);
        put(z, 9, READ, 0);
        z.change(0, 5, READ, 0, 0, 0, 0);
        due("20 a skip below 0 of one that gets none; refused calls change nothing", z.apply(), true);
        WrittenBench w = new WrittenBench();
        put(w, 0, PRINT, 0);
        w.mend();
        put(w, 4, READ, 0);
        due("20 code since", w.apply(), false);
        w.mend();
        w.clear(4);
        due("20 clear since", w.apply(), false);
        w.mend();
        due("4 an empty one", w.clear(4), 0);
        due("20 not changed since", w.apply(), true);
    }

    // Promise 21
    private static void count() {
        WrittenBench x = new WrittenBench();
        x.input(4);
        x.input(4);
        put(x, 5, READ, 0);
        x.cost(5, 8);
        due("21 input", x.count(0), 2);
        due("21 instructions", x.count(15), 1);
        due("21 cost", x.count(25), 8);
        for (int what : new int[] {-1, 1, 9, 16, 19, 26, MIN, MAX}) due("21 what " + what, x.count(what), -1);
    }
}
