/** Each sentence of THE FLOW, and promises 11 to 16. */
public final class FlowEdgesTest extends Check {
    private static final int W = 1;
    private static final int U = 2;
    private static final int BOTH = 3;

    public static void main(String[] args) {
        functionZeroBegins();
        skipGoesBothWays();
        skipToTheEnd();
        comeTogether();
        writtenAlone();
        freeAlone();
        copyAsTheOthers();
        addOfAllPairs();
        storeWithOneAndMore();
        loadOfAny();
        callsGoToTheBegin();
        whatReturnsGoesBehindEachCall();
        whatReturnsLate();
        callsThatNeverReturn();
        rightSureMaybe();
        badUsesInOrder();
        flowAsItIs();
        stateAtItsEdges();
        witnessIsTheLeast();
        witnessOfItsInputAlone();
        witnessThere();
        witnessNone();
        needs();
        needsMaybeOrSure();
        needsAsIfItWereFunctionZero();
        writes();
        writesIfSomethingReturns();
        end("FlowEdgesTest");
    }

    private static void states(String what, WrittenBench x, int f, int i, int first, int... due) {
        for (int k = 0; k < due.length; k++) {
            due(what + ": state of " + (first + k), x.state(f, i, first + k), due[k]);
        }
    }

    private static void allAre(String what, WrittenBench x, int f, int i, int due) {
        for (int k = 0; k < 16; k++) due(what + ": state of " + k, x.state(f, i, k), due);
    }

    private static void functionZeroBegins() {
        says("FUNCTION 0 begins with all not WRITTEN.");
        WrittenBench x = new WrittenBench();
        allAre("of an empty one", x, 0, 0, U);
        for (int f = 1; f < 6; f++) allAre("not come to", x, f, 0, 0);
        due("no use", x.flow(), 0);
        put(x, 0, SET, 0, 1);
        allAre("at its begin", x, 0, 0, U);
        states("at its end", x, 0, 1, 0, W, U);
        // What a RUN left is not what THE FLOW begins with.
        x.run();
        allAre("behind a run", x, 0, 0, U);
    }

    private static void skipGoesBothWays() {
        says("SKIP both to there and to the next one (whatever a is)");
        for (int v : new int[] {0, 1, 255}) {
            WrittenBench x = of(o(SET, 0, v), o(SKIP, 0, 1), o(SET, 1, 1));
            states("a is " + v, x, 0, 2, 0, W, U);
            states("a is " + v, x, 0, 3, 0, W, BOTH);
        }
        WrittenBench itself = of(o(SKIP, 0, -1), o(SET, 0, 1));
        states("to itself", itself, 0, 0, 0, U);
        states("and on", itself, 0, 1, 0, U);
        WrittenBench next = of(o(SKIP, 0, 0), o(SET, 0, 1));
        states("to the next", next, 0, 1, 0, U);
        states("behind it", next, 0, 2, 0, W);
        WrittenBench back = of(o(SKIP, 0, 0), o(SET, 0, 1), o(SKIP, 1, -3));
        states("back to the first", back, 0, 0, 0, BOTH);
        turn(back, 0, 2, SKIP, 1, -2);
        states("back to the second", back, 0, 0, 0, U);
        states("is come to with both", back, 0, 1, 0, BOTH);
    }

    private static void skipToTheEnd() {
        says("A place below 0 or behind the last INSTRUCTION is the end: RETURN (that is no INSTRUCTION).");
        for (int n : new int[] {-30, -3, -2, 1, 2, 30}) {
            WrittenBench x = of(o(SKIP, 0, n), o(SET, 1, 1));
            states("the end with a skip of " + n, x, 0, 2, 0, U, BOTH);
            WrittenBench y = of(o(CALL, 1));
            add(y, 1, o(SKIP, 0, n), o(SET, 1, 1));
            states("returns with a skip of " + n, y, 0, 1, 0, U, BOTH);
        }
        for (int n : new int[] {-1, 0}) {
            WrittenBench x = of(o(SKIP, 0, n), o(SET, 1, 1));
            states("not the end with a skip of " + n, x, 0, 2, 0, U, W);
        }
        WrittenBench full = of(o(SKIP, 0, 29));
        for (int k = 1; k < 30; k++) put(full, 0, SET, 1, 1);
        states("29 from the first of 30", full, 0, 30, 1, BOTH);
        turn(full, 0, 0, SKIP, 0, 28);
        states("28 goes to the last", full, 0, 29, 1, BOTH);
        states("and is written behind it", full, 0, 30, 1, W);
        turn(full, 0, 0, SET, 2, 1);
        turn(full, 0, 29, SKIP, 0, -30);
        states("-30 from the last", full, 0, 0, 1, BOTH);
        turn(full, 0, 29, SET, 1, 1);
        turn(full, 0, 28, SKIP, 0, -30);
        states("-30 from the last but one", full, 0, 0, 1, U);
    }

    private static void comeTogether() {
        says("where several come together a cell may be what it may be by any.");
        WrittenBench x = of(o(SKIP, 9, 3), o(SET, 0, 1), o(SET, 1, 1), o(SKIP, 9, 1), o(SET, 1, 2), o(PRINT, 0));
        states("by two", x, 0, 4, 0, BOTH, BOTH);
        states("by two, of which each wrote 1", x, 0, 5, 0, BOTH, W, U);
        WrittenBench three = of(o(SKIP, 9, 4), o(SET, 0, 1), o(SKIP, 9, 2), o(SET, 1, 1), o(SET, 2, 1), o(PRINT, 0));
        states("by three", three, 0, 5, 0, BOTH, BOTH, BOTH, U);
        WrittenBench y = of(o(SKIP, 9, 2), o(SET, 0, 1), o(SKIP, 9, 1), o(SET, 0, 2));
        states("written by each", y, 0, 4, 0, W, U);
    }

    /** 0 is written alone, 1 not written alone, 2 both, and so again 4, 5, 6; INSTRUCTION 8 comes next. */
    private static WrittenBench threeKinds() {
        return of(o(READ, 0), o(READ, 4), o(SKIP, 0, 2), o(SET, 2, 1), o(SET, 6, 1), o(SET, 12, 0), o(SET, 12, 0), o(SET, 12, 0));
    }

    private static void writtenAlone() {
        says("SET, READ, OUTSIDE: WRITTEN alone.");
        for (int a = 0; a < 3; a++) {
            WrittenBench x = threeKinds();
            states("ahead", x, 0, 8, 0, W, U, BOTH, U, W, U, BOTH, U);
            put(x, 0, SET, a, 0);
            states("SET", x, 0, 9, a, W);
            turn(x, 0, 8, READ, a);
            states("READ", x, 0, 9, a, W);
        }
        WrittenBench y = threeKinds();
        put(y, 0, OUTSIDE, 1, 2);
        states("OUTSIDE and its sides", y, 0, 9, 0, W, W, W, U, W);
        turn(y, 0, 8, OUTSIDE, 8, 8);
        states("OUTSIDE to the last", y, 0, 9, 7, U, W, W, W, W, W, W, W, W);
        turn(y, 0, 8, OUTSIDE, 0, 1);
        states("OUTSIDE of one", y, 0, 9, 0, W, U);
    }

    private static void freeAlone() {
        says("FREE: not WRITTEN alone.");
        WrittenBench x = threeKinds();
        put(x, 0, FREE, 0, 3);
        states("FREE", x, 0, 9, 0, U, U, U, U, W);
        turn(x, 0, 8, FREE, 2, 3);
        states("FREE and its sides", x, 0, 9, 0, W, U, U, U, U, U, BOTH);
        turn(x, 0, 8, FREE, 5, 8);
        states("FREE to 12", x, 0, 9, 4, W, U, U, U, U, U, U, U, U);
        turn(x, 0, 8, FREE, 12, 1);
        states("FREE of one", x, 0, 9, 12, U);
    }

    private static void copyAsTheOthers() {
        says("COPY: as of the others.");
        WrittenBench x = threeKinds();
        put(x, 0, COPY, 8, 0, 8);
        states("COPY of eight", x, 0, 9, 8, W, U, BOTH, U, W, U, BOTH, U);
        turn(x, 0, 8, COPY, 1, 0, 3);
        states("up over itself", x, 0, 9, 0, W, W, U, BOTH, W);
        turn(x, 0, 8, COPY, 0, 1, 3);
        states("down over itself", x, 0, 9, 0, U, BOTH, U, U, W);
        turn(x, 0, 8, COPY, 0, 0, 8);
        states("onto itself", x, 0, 9, 0, W, U, BOTH, U, W, U, BOTH, U);
        turn(x, 0, 8, COPY, 15, 2, 1);
        states("COPY of one", x, 0, 9, 14, U, BOTH);
    }

    private static void addOfAllPairs() {
        says("ADD: WRITTEN if both may be, not WRITTEN if one of them may be not.");
        int[][] sums = {{W, U, BOTH}, {U, U, U}, {BOTH, U, BOTH}};
        for (int a = 0; a < 3; a++) {
            for (int b = 0; b < 3; b++) {
                WrittenBench x = threeKinds();
                put(x, 0, ADD, a, 4 + b);
                states("ADD " + a + " " + (4 + b), x, 0, 9, a, sums[a][b]);
                states("the other stays", x, 0, 9, 4, W, U, BOTH);
            }
            WrittenBench twice = threeKinds();
            put(twice, 0, ADD, a, a);
            states("ADD of a cell and itself", twice, 0, 9, a, a == 0 ? W : a == 1 ? U : BOTH);
        }
    }

    private static void storeWithOneAndMore() {
        says("STORE: with n 1 as b; else each of the n cells may be what it could be or what b may be.");
        int[] kinds = {W, U, BOTH};
        for (int b = 0; b < 3; b++) {
            for (int a = 0; a < 3; a++) {
                WrittenBench x = threeKinds();
                put(x, 0, STORE, a, 1, 0, 4 + b);
                states("STORE of 1", x, 0, 9, a, kinds[b]);
            }
            WrittenBench y = threeKinds();
            put(y, 0, STORE, 0, 2, 0, 4 + b);
            states("STORE of 2", y, 0, 9, 0, W | kinds[b], U | kinds[b], BOTH, U, W);
            WrittenBench z = threeKinds();
            put(z, 0, STORE, 8, 8, 0, 4 + b);
            states("STORE of 8", z, 0, 9, 7, U, U | kinds[b], U | kinds[b], U | kinds[b], U | kinds[b], W | kinds[b],
                U | kinds[b], U | kinds[b], U | kinds[b]);
            due("v is told in vain", y.state(0, 9, 0), W | kinds[b]);
        }
        WrittenBench inside = threeKinds();
        put(inside, 0, STORE, 0, 3, 0, 1);
        states("of one of them", inside, 0, 9, 0, BOTH, U, BOTH);
    }

    private static void loadOfAny() {
        says("LOAD: what any of the n cells may be.");
        WrittenBench x = threeKinds();
        put(x, 0, LOAD, 9, 0, 1, 0);
        states("of one written", x, 0, 9, 9, W);
        turn(x, 0, 8, LOAD, 0, 1, 1, 0);
        states("of one not written", x, 0, 9, 0, U);
        turn(x, 0, 8, LOAD, 0, 2, 1, 0);
        states("of one that is both", x, 0, 9, 0, BOTH);
        turn(x, 0, 8, LOAD, 9, 0, 2, 0);
        states("of two", x, 0, 9, 9, BOTH);
        turn(x, 0, 8, LOAD, 2, 12, 1, 0);
        states("over what it was", x, 0, 9, 2, W);
        turn(x, 0, 8, LOAD, 12, 8, 8, 0);
        states("of eight with itself", x, 0, 9, 12, BOTH);
        turn(x, 0, 8, LOAD, 12, 8, 4, 0);
        states("of those ahead of it", x, 0, 9, 12, U);
        turn(x, 0, 8, LOAD, 0, 13, 3, 0);
        states("to the last cell", x, 0, 9, 0, U);
        turn(x, 0, 0, OUTSIDE, 8, 8);
        turn(x, 0, 8, LOAD, 0, 8, 8, 0);
        states("of eight written", x, 0, 9, 0, W);
        turn(x, 0, 8, LOAD, 9, 7, 8, 0);
        states("of seven and one", x, 0, 9, 9, BOTH);
        turn(x, 0, 7, FREE, 15, 1);
        turn(x, 0, 8, LOAD, 9, 8, 7, 0);
        states("not of the one behind", x, 0, 9, 9, W);
        turn(x, 0, 8, LOAD, 9, 8, 8, 0);
        states("of the last as well", x, 0, 9, 9, BOTH);
    }

    private static void callsGoToTheBegin() {
        says("CALL: the STATE goes to the FUNCTION's begin;");
        WrittenBench x = of(o(SET, 0, 1), o(CALL, 5), o(SET, 1, 1), o(CALL, 5));
        states("of an empty function", x, 5, 0, 0, W, BOTH, U);
        put(x, 5, SET, 2, 1);
        states("its begin", x, 5, 0, 0, W, BOTH, BOTH);
        states("its end", x, 5, 1, 0, W, BOTH, W, U);
        // A CALL of the FUNCTION itself.
        WrittenBench y = of(o(SKIP, 0, 1), o(CALL, 0), o(SET, 1, 1));
        states("its begin", y, 0, 0, 0, U, U);
        states("behind the CALL", y, 0, 2, 0, U, BOTH);
        states("its end", y, 0, 3, 0, U, W);
        WrittenBench z = of(o(SKIP, 0, 2), o(SET, 1, 1), o(CALL, 0));
        states("its begin by the CALL too", z, 0, 0, 0, U, BOTH);
    }

    private static void whatReturnsGoesBehindEachCall() {
        says("what RETURNS from it, from whatever CALL, goes on behind each CALL of it that was come to.");
        WrittenBench x = of(o(SET, 0, 1), o(CALL, 1), o(CALL, 2));
        put(x, 2, CALL, 1);
        states("behind the first, with what came by the other", x, 0, 2, 0, W);
        turn(x, 0, 2, FREE, 0, 1);
        put(x, 0, CALL, 2);
        states("behind the first now", x, 0, 2, 0, BOTH);
        states("behind the one in function 2", x, 2, 1, 0, BOTH);
        WrittenBench y = of(o(CALL, 1), o(RETURN), o(CALL, 1), o(PRINT, 0));
        put(y, 3, CALL, 1);
        allAre("behind the CALL that is come to", y, 0, 1, U);
        allAre("a CALL that is not come to", y, 0, 2, 0);
        allAre("behind it", y, 0, 3, 0);
        allAre("behind one in a function that is not", y, 3, 1, 0);
        due("no use is come to", y.flow(), 0);
        WrittenBench other = of(o(CALL, 1));
        put(other, 1, SET, 0, 1);
        states("what returned", other, 0, 1, 0, W, U);
        turn(other, 1, 0, SET, 1, 1);
        states("what returns now", other, 0, 1, 0, U, W);
        other.clear(1);
        states("what returns of an empty one", other, 0, 1, 0, U, U);
        WrittenBench last = of(o(CALL, 1));
        put(last, 1, SET, 3, 3);
        states("a CALL as the last comes to the end", last, 0, 1, 2, U, W, U);
        // By RETURN and by the end: both go on.
        WrittenBench two = of(o(CALL, 1));
        add(two, 1, o(SKIP, 0, 2), o(SET, 1, 1), o(RETURN), o(SET, 2, 1));
        states("of two ways to return", two, 0, 1, 0, U, BOTH, BOTH);
    }

    /** What comes to the RETURN by skips back alone, when all else stands still already, goes on too. */
    private static void whatReturnsLate() {
        says("what RETURNS from it, from whatever CALL, goes on behind each CALL of it that was come to.");
        for (int cell = 0; cell < 16; cell++) {
            int other = cell == 5 ? 6 : 5;
            WrittenBench x = of(o(CALL, 1));
            add(x, 1, o(SKIP, other, 3), o(RETURN), o(SKIP, other, -2), o(FREE, cell, 1), o(SET, cell, 1),
                o(SKIP, other, -4), o(FREE, cell, 1));
            states("written late", x, 0, 1, cell, BOTH);
            WrittenBench y = of(o(SET, cell, 1), o(CALL, 1));
            add(y, 1, o(SKIP, other, 3), o(RETURN), o(SKIP, other, -2), o(SET, cell, 1), o(FREE, cell, 1),
                o(SKIP, other, -4), o(SET, cell, 1));
            states("unwritten late", y, 0, 2, cell, BOTH);
        }
    }

    private static void callsThatNeverReturn() {
        says("goes on behind each CALL of it that was come to.");
        WrittenBench x = of(o(CALL, 0), o(PRINT, 0));
        allAre("what never returns", x, 0, 1, 0);
        allAre("its end", x, 0, 2, 0);
        due("no use", x.flow(), 0);
        WrittenBench y = of(o(CALL, 1), o(PRINT, 0));
        put(y, 1, CALL, 2);
        put(y, 2, CALL, 1);
        put(y, 1, PRINT, 0);
        due("a ring", y.flow(), 0);
        allAre("is come to", y, 2, 0, U);
        allAre("and not left", y, 2, 1, 0);
        put(y, 2, RETURN);
        due("RETURN behind the CALL is no help", y.flow(), 0);
        turn(y, 2, 0, SKIP, 1, 0);
        due("without the CALL back", y.flow(), 3);
    }

    private static void rightSureMaybe() {
        says("A USE that is come to is RIGHT if its cell may not be unwritten; SURE if it may not be WRITTEN; else MAYBE.");
        int[][] uses = {{PRINT, 0}, {SKIP, 0, 0}, {STORE, 9, 2, 0, 3}, {LOAD, 9, 3, 2, 0}};
        for (int[] use : uses) {
            for (int a = 0; a < 3; a++) {
                int[] o = use.clone();
                o[use[0] == STORE ? 3 : use[0] == LOAD ? 4 : 1] = a;
                WrittenBench x = threeKinds();
                add(x, 0, o);
                due("bad uses of op " + use[0], x.flow(), a == 0 ? 0 : 1);
                due("its kind, op " + use[0], x.bad(0, 3), a == 0 ? NONE : a);
                due("its cell, op " + use[0], x.bad(0, 2), a == 0 ? NONE : a);
                due("its place, op " + use[0], x.bad(0, 1), a == 0 ? NONE : 8);
            }
        }
        WrittenBench y = of(o(RETURN), o(PRINT, 0));
        put(y, 1, PRINT, 0);
        due("what is not come to is none", y.flow(), 0);
        due("no bad one", y.bad(0, 0), NONE);
    }

    private static void badUsesInOrder() {
        says("BAD ones are SURE or MAYBE, by FUNCTIONS, then INSTRUCTIONS.");
        WrittenBench x = of(o(CALL, 5), o(PRINT, 7), o(CALL, 2), o(PRINT, 6));
        add(x, 5, o(PRINT, 1), o(SKIP, 1, 1), o(SET, 1, 1), o(PRINT, 1));
        add(x, 2, o(PRINT, 2));
        int[][] want = {{0, 1, 7, 1}, {0, 3, 6, 1}, {2, 0, 2, 1}, {5, 0, 1, 1}, {5, 1, 1, 1}, {5, 3, 1, 2}};
        due("six", x.flow(), 6);
        for (int k = 0; k < want.length; k++) {
            for (int what = 0; what < 4; what++) due("bad " + k + " " + what, x.bad(k, what), want[k][what]);
        }
        says("Of BAD USE k by the program as it is what 0: FUNCTION, 1: INSTRUCTION, 2: the cell, 3: 1 SURE, 2 MAYBE.");
        WrittenBench now = of(o(PRINT, 4));
        due("with no flow() ahead", now.bad(0, 2), 4);
        turn(now, 0, 0, PRINT, 5);
        due("behind a change", now.bad(0, 2), 5);
        now.clear(0);
        due("behind clear", now.bad(0, 2), NONE);
        says("NONE without it, or for another what.");
        for (int k : new int[] {-1, 6, 7, 180, MIN, MAX}) {
            for (int what = 0; what < 4; what++) due("bad " + k, x.bad(k, what), NONE);
        }
        for (int what : new int[] {-1, 4, 5, MIN, MAX}) due("what " + what, x.bad(0, what), NONE);
        due("of an empty program", new WrittenBench().bad(0, 0), NONE);
        WrittenBench full = new WrittenBench();
        for (int f = 0; f < 6; f++) {
            for (int k = 0; k < 29; k++) put(full, f, PRINT, k % 16);
            put(full, f, f == 5 ? PRINT : CALL, f == 5 ? 13 : f + 1);
        }
        due("in all places", full.flow(), 175);
        due("the last one's function", full.bad(174, 0), 5);
        due("the last one's place", full.bad(174, 1), 29);
        due("the last one's cell", full.bad(174, 2), 13);
        due("no more", full.bad(175, 0), NONE);
    }

    private static void flowAsItIs() {
        says("THE FLOW of the program as it is: how many USES are BAD.");
        WrittenBench x = new WrittenBench();
        due("empty", x.flow(), 0);
        put(x, 0, PRINT, 0);
        due("behind code", x.flow(), 1);
        due("asked again", x.flow(), 1);
        turn(x, 0, 0, READ, 0);
        due("behind change", x.flow(), 0);
        due("no bad one", x.bad(0, 0), NONE);
        due("the state", x.state(0, 1, 0), W);
        turn(x, 0, 0, PRINT, 0);
        due("a refused change", turn(x, 0, 0, READ, 16), false);
        due("is none", x.flow(), 1);
        x.needs(0);
        x.writes(0);
        x.witness(0, 0, 2);
        due("behind summaries", x.flow(), 1);
        due("behind summaries, the state", x.state(0, 1, 0), U);
        x.mend();
        due("behind mend", x.flow(), 1);
        x.apply();
        due("behind apply", x.flow(), 0);
        x.clear(0);
        due("behind clear", x.flow(), 0);
        due("behind clear, its end", x.state(0, 0, 0), U);
    }

    private static void stateAtItsEdges() {
        says("What a cell may be as INSTRUCTION i of a FUNCTION (i as many as it has: its end) is come to: 0 it is not, 1 WRITTEN alone, 2 not WRITTEN alone, 3 both. NONE without these.");
        WrittenBench x = of(o(SET, 0, 1), o(SET, 15, 1));
        due("as the first is come to", x.state(0, 0, 0), U);
        due("as the second is", x.state(0, 1, 0), W);
        due("its end, cell 15", x.state(0, 2, 15), W);
        due("its end, cell 14", x.state(0, 2, 14), U);
        for (int i : new int[] {3, 4, 30, 31, -1, MIN, MAX}) due("INSTRUCTION " + i, x.state(0, i, 0), NONE);
        for (int f : new int[] {-1, 6, MIN, MAX}) due("FUNCTION " + f, x.state(f, 0, 0), NONE);
        for (int c : new int[] {-1, 16, MIN, MAX}) due("cell " + c, x.state(0, 0, c), NONE);
        due("the end of one that is empty and not come to", x.state(5, 0, 15), 0);
        due("behind it", x.state(5, 1, 15), NONE);
        for (int k = 0; k < 30; k++) put(x, 4, SET, 1, 1);
        due("the end of a full one that is not come to", x.state(4, 30, 1), 0);
        due("behind it", x.state(4, 31, 1), NONE);
        put(x, 0, CALL, 4);
        due("the end of a full one", x.state(4, 30, 1), W);
        due("its last INSTRUCTION", x.state(4, 29, 0), W);
        x.clear(4);
        due("no more there", x.state(4, 1, 1), NONE);
        due("its end is its begin", x.state(4, 0, 1), U);
    }

    private static void witnessIsTheLeast() {
        says("A WITNESS of an INSTRUCTION: the least number w of L bits (L 1 to 10) so that a RUN with the INPUT bit 0 of w, bit 1, .. (L numbers, 0 or 1) has a BAD USE there.");
        WrittenBench one = of(o(READ, 0), o(SKIP, 0, 1), o(PRINT, 5), o(PRINT, 6));
        for (int l = 1; l <= 10; l++) {
            due("1 with L " + l, one.witness(0, 2, l), 1);
            due("0 with L " + l, one.witness(0, 3, l), 0);
        }
        // Only the number of the last READ tells.
        for (int n = 1; n <= 11; n++) {
            WrittenBench x = new WrittenBench();
            for (int k = 0; k < n; k++) put(x, 0, READ, 0);
            add(x, 0, o(SKIP, 0, 1), o(PRINT, 5));
            for (int l : new int[] {1, n - 1, n, 10}) {
                if (l < 1 || l > 10) continue;
                due("bit " + (n - 1) + " with L " + l, x.witness(0, n + 1, l), l < n ? -1 : 1 << n - 1);
            }
        }
        // All bits must be 1, so the greatest number is the least one.
        for (int n = 1; n <= 10; n++) {
            WrittenBench x = new WrittenBench();
            for (int k = 0; k < n; k++) add(x, 0, o(READ, 0), o(SKIP, 0, 30));
            put(x, 0, PRINT, 5);
            due("all of " + n, x.witness(0, 2 * n, n), (1 << n) - 1);
            due("all of 10 bits or " + n, x.witness(0, 2 * n, 10), (1 << n) - 1);
            if (n > 1) due("one bit less", x.witness(0, 2 * n, n - 1), -1);
        }
        // Bit 0 is the first number: 2 has a 0 first and a 1 behind it.
        WrittenBench order = of(o(READ, 0), o(READ, 1), o(SKIP, 1, 3), o(SKIP, 0, 1), o(RETURN), o(PRINT, 5), o(SET, 2, 2));
        due("0 first, then 1", order.witness(0, 5, 2), 2);
        due("0 first, then 1, with L 10", order.witness(0, 5, 10), 2);
        due("0 first, then 1, with L 1", order.witness(0, 5, 1), -1);
        // The numbers are 0 or 1, never more.
        WrittenBench more = of(o(READ, 0), o(SET, 1, 254), o(ADD, 0, 1), o(SKIP, 0, 1), o(RETURN), o(PRINT, 5));
        due("2 would do, but is no bit", more.witness(0, 5, 10), -1);
    }

    private static void witnessOfItsInputAlone() {
        says("The WITNESS of INSTRUCTION i of a FUNCTION with L numbers; -1: none; -2 without these.");
        WrittenBench x = of(o(READ, 0), o(SKIP, 0, 1), o(PRINT, 5));
        numbers(x, 7, 7);
        x.run();
        due("not of the INPUT", x.witness(0, 2, 3), 1);
        due("the INPUT stays", x.count(0), 2);
        due("the latest run stays, end", x.cell(0, 0), 7);
        due("the latest run stays, bad", x.ran(1), 1);
        due("the latest run stays, done", x.ran(0), 3);
        due("the latest run stays, print", x.printed(0), 0);
        x.witness(0, 1, 10);
        x.run();
        due("the INPUT is what it was", x.cell(0, 0), 7);
        // Behind the L numbers comes 0.
        WrittenBench y = of(o(READ, 0), o(READ, 0), o(SKIP, 0, 1), o(PRINT, 5));
        numbers(y, 1, 1, 1);
        due("0 behind L", y.witness(0, 3, 1), -1);
        due("with one more", y.witness(0, 3, 2), 2);
    }

    private static void witnessThere() {
        says("has a BAD USE there.");
        WrittenBench x = of(o(PRINT, 5), o(READ, 0), o(SKIP, 0, 1), o(PRINT, 5), o(CALL, 1));
        put(x, 1, PRINT, 6);
        put(x, 1, PRINT, 0);
        due("the first PRINT", x.witness(0, 0, 2), 0);
        due("the second PRINT", x.witness(0, 3, 2), 1);
        due("in another function", x.witness(1, 0, 2), 0);
        due("a right one there", x.witness(1, 1, 2), -1);
        due("a right SKIP", x.witness(0, 2, 2), -1);
        // However the RUN ends.
        WrittenBench refused = of(o(SET, 1, 9), o(ADD, 0, 1), o(STORE, 1, 8, 0, 1), o(PRINT, 5));
        due("a REFUSED one", refused.witness(0, 2, 1), 0);
        due("none behind it", refused.witness(0, 3, 1), -1);
        due("though by the flow", refused.bad(1, 1), 3);
        WrittenBench endless = of(o(SKIP, 0, -1), o(PRINT, 5));
        due("an endless one", endless.witness(0, 0, 1), 0);
        due("none behind 1000", endless.witness(0, 1, 10), -1);
        due("though by the flow", endless.bad(1, 1), 1);
        WrittenBench deep = of(o(READ, 0), o(PRINT, 5), o(SKIP, 6, 1), o(RETURN), o(CALL, 0));
        due("a deep one", deep.witness(0, 1, 1), 0);
    }

    private static void witnessNone() {
        says("-1: none; -2 without these.");
        WrittenBench x = of(o(SET, 0, 1), o(PRINT, 0), o(PRINT, 1), o(CALL, 1), o(RETURN), o(PRINT, 2));
        int[] want = {-1, -1, 0, -1, -1, -1, -2, -2};
        for (int i = 0; i < want.length; i++) due("INSTRUCTION " + i, x.witness(0, i, 2), want[i]);
        for (int l : new int[] {0, -1, 11, 12, 32, 33, MIN, MAX}) {
            due("L " + l, x.witness(0, 2, l), -2);
            due("L " + l + " of a right one", x.witness(0, 1, l), -2);
        }
        for (int l = 1; l <= 10; l++) due("L " + l, x.witness(0, 2, l), 0);
        for (int f : new int[] {-1, 6, MIN, MAX}) due("FUNCTION " + f, x.witness(f, 0, 2), -2);
        for (int i : new int[] {-1, 30, MIN, MAX}) due("INSTRUCTION " + i, x.witness(0, i, 2), -2);
        for (int f = 1; f < 6; f++) due("an empty FUNCTION", x.witness(f, 0, 2), -2);
    }

    private static void needs() {
        says("Cells that a FUNCTION NEEDS (cell c is bit c); NONE without it.");
        WrittenBench x = new WrittenBench();
        for (int f : new int[] {-1, 6, MIN, MAX}) due("FUNCTION " + f, x.needs(f), NONE);
        for (int f = 0; f < 6; f++) due("empty", x.needs(f), 0);
        for (int k = 0; k < 16; k++) {
            WrittenBench one = of(o(PRINT, k));
            due("cell " + k, one.needs(0), 1 << k);
            put(x, 5, PRINT, k);
        }
        due("all", x.needs(5), 0xFFFF);
        due("the others none", x.needs(0), 0);
        add(x, 4, o(SET, 0, 1), o(CALL, 5));
        due("through a CALL all but one", x.needs(4), 0xFFFE);
        add(x, 3, o(RETURN), o(PRINT, 3));
        due("what is not come to", x.needs(3), 0);
        add(x, 2, o(LOAD, 0, 4, 3, 9), o(PRINT, 0), o(STORE, 1, 2, 10, 11), o(PRINT, 2));
        due("any of a LOAD, any of a STORE", x.needs(2), 1 << 2 | 1 << 4 | 1 << 5 | 1 << 6 | 1 << 9 | 1 << 10 | 1 << 11);
        add(x, 1, o(ADD, 0, 1), o(PRINT, 0), o(STORE, 3, 1, 2, 4), o(SKIP, 3, 0));
        due("both of an ADD, the one of a STORE", x.needs(1), 1 | 1 << 1 | 1 << 2 | 1 << 4);
    }

    private static void needsMaybeOrSure() {
        says("has not the same BAD USES (places and SURE or MAYBE) as begun with all WRITTEN alone;");
        WrittenBench x = new WrittenBench();
        add(x, 1, o(FREE, 0, 1), o(PRINT, 0));
        due("SURE anyhow", x.needs(1), 0);
        add(x, 2, o(SKIP, 9, 1), o(FREE, 0, 1), o(PRINT, 0));
        due("MAYBE, and SURE without it", x.needs(2), 1 | 1 << 9);
        add(x, 3, o(SKIP, 9, 2), o(FREE, 0, 1), o(SKIP, 9, 1), o(SET, 0, 1), o(PRINT, 0));
        due("MAYBE either way", x.needs(3), 1 << 9);
        add(x, 4, o(PRINT, 0), o(FREE, 0, 1), o(CALL, 4));
        due("MAYBE by its own CALL, SURE without it", x.needs(4), 1);
        add(x, 5, o(FREE, 0, 1), o(CALL, 5), o(PRINT, 1));
        due("no use is come to", x.needs(5), 0);
        for (int f = 0; f < 6; f++) {
            WrittenBench y = new WrittenBench();
            for (int k = 0; k < 28; k++) put(y, f, SET, 3, k);
            add(y, f, o(FREE, 0, 1), o(PRINT, 0));
            due("SURE anyhow as the last of " + f, y.needs(f), 0);
            y.clear(f);
            add(y, f, o(PRINT, 7), o(FREE, 0, 1), o(PRINT, 0));
            due("with one that is needed in " + f, y.needs(f), 1 << 7);
        }
    }

    private static void needsAsIfItWereFunctionZero() {
        says("the FLOW of it (as if it were FUNCTION 0), begun with all cells WRITTEN alone but this one (not WRITTEN alone)");
        // FUNCTION 0 reaches FUNCTION 1 only with cell 3 written, and never FUNCTION 2.
        WrittenBench x = of(o(SET, 3, 1), o(CALL, 1), o(PRINT, 7));
        add(x, 1, o(PRINT, 3));
        add(x, 2, o(PRINT, 4));
        due("none is bad by the program for 3", x.flow(), 1);
        due("but it needs 3", x.needs(1), 1 << 3);
        due("not come to, but it needs 4", x.needs(2), 1 << 4);
        due("FUNCTION 0 itself", x.needs(0), 1 << 7);
        due("the flow stays", x.bad(0, 2), 7);
        // What goes on behind CALLS of it in FUNCTIONS that it does not come to is none of it.
        WrittenBench y = of(o(CALL, 1), o(PRINT, 5));
        add(y, 1, o(SET, 0, 0));
        due("nothing behind the CALL in FUNCTION 0", y.needs(1), 0);
        add(y, 1, o(SKIP, 0, 1), o(CALL, 0));
        due("but with a CALL of FUNCTION 0", y.needs(1), 1 << 5);
    }

    private static void writes() {
        says("Cells that it WRITES likewise.");
        WrittenBench x = new WrittenBench();
        for (int f : new int[] {-1, 6, MIN, MAX}) due("FUNCTION " + f, x.writes(f), NONE);
        for (int f = 0; f < 6; f++) due("empty", x.writes(f), 0);
        add(x, 5, o(OUTSIDE, 0, 8), o(OUTSIDE, 8, 8));
        due("all", x.writes(5), 0xFFFF);
        put(x, 5, FREE, 15, 1);
        due("but the last", x.writes(5), 0x7FFF);
        put(x, 5, FREE, 0, 1);
        due("but the first", x.writes(5), 0x7FFE);
        for (int k = 0; k < 16; k++) due("cell " + k, of(o(READ, k)).writes(0), 1 << k);
        add(x, 4, o(SET, 0, 1), o(ADD, 1, 0), o(ADD, 0, 0), o(COPY, 2, 3, 1), o(COPY, 4, 0, 1), o(STORE, 5, 1, 0, 0),
            o(STORE, 6, 2, 0, 0), o(LOAD, 8, 4, 2, 0), o(LOAD, 9, 5, 2, 0));
        due("of each op", x.writes(4), 1 | 1 << 4 | 1 << 5 | 1 << 8);
        says("begun with all not WRITTEN, all that RETURNS has it WRITTEN alone");
        add(x, 3, o(SKIP, 0, 2), o(SET, 1, 1), o(RETURN), o(SET, 1, 2), o(SET, 2, 2));
        due("on all ways", x.writes(3), 1 << 1);
        add(x, 2, o(SKIP, 0, -2), o(SET, 1, 1));
        due("a way by a place below 0", x.writes(2), 0);
        // As the program calls it cell 7 is written already: that is no matter.
        add(x, 0, o(SET, 7, 1), o(CALL, 3));
        due("whatever the program has ahead", x.writes(3), 1 << 1);
        due("FUNCTION 0 by itself and by the CALL", x.writes(0), 1 << 1 | 1 << 7);
        // mend() tries SETS and takes FREE for OUTSIDE: nothing of that stays.
        WrittenBench y = of(o(PRINT, 3), o(CALL, 1), o(FREE, 4, 1), o(PRINT, 5));
        add(y, 1, o(PRINT, 6));
        due("a mend", y.mend(), 3);
        due("writes behind it", y.writes(0), 0);
        due("writes of the called one behind it", y.writes(1), 0);
        y.mend();
        due("needs behind it", y.needs(0), 1 << 3 | 1 << 5 | 1 << 6);
        y.mend();
        due("flow behind it", y.flow(), 3);
    }

    private static void writesIfSomethingReturns() {
        says("(and something RETURNS)");
        WrittenBench x = new WrittenBench();
        add(x, 1, o(OUTSIDE, 0, 8), o(CALL, 1));
        due("a CALL of itself", x.writes(1), 0);
        add(x, 2, o(SET, 0, 1), o(CALL, 3));
        add(x, 3, o(SET, 1, 1), o(CALL, 2));
        due("a ring", x.writes(2), 0);
        due("the other of it", x.writes(3), 0);
        add(x, 4, o(SET, 0, 1), o(SKIP, 0, 1), o(CALL, 4));
        due("a way around the CALL", x.writes(4), 1);
        add(x, 5, o(SET, 0, 1), o(CALL, 1), o(SET, 1, 1));
        due("a CALL of one that never returns", x.writes(5), 0);
    }
}
