/** Each sentence of A MEND, and promises 17 to 20. */
public final class MendEdgesTest extends Check {
    public static void main(String[] args) {
        whatASkipBringsStays();
        onlyWhereItCannotBeWritten();
        onlyWhereSomethingComes();
        whatComesSoIsByCallsAlone();
        costBounds();
        whatLeads();
        whatDoesNotLead();
        freeIsLikeOutside();
        leadsBehindEachCall();
        moreThanTwelve();
        theLeastCost();
        theLeastNumber();
        allAtOnce();
        mendTells();
        mendedOfTheLatest();
        mendedAtItsEdges();
        applyPutsSets();
        applySkipsStay();
        applyNoneToBeDone();
        applyChangedSince();
        applyMoreThanThirty();
        applySkipBelowZero();
        end("MendEdgesTest");
    }

    /** The latest mend() told just these pairs of FUNCTION and cell. */
    private static void mends(String what, WrittenBench x, int... pairs) {
        for (int k = 0; k < pairs.length / 2; k++) {
            due(what + ": FUNCTION of " + k, x.mended(k, 0), pairs[2 * k]);
            due(what + ": cell of " + k, x.mended(k, 1), pairs[2 * k + 1]);
        }
        due(what + ": no more", x.mended(pairs.length / 2, 0), NONE);
        due(what + ": no more", x.mended(pairs.length / 2, 1), NONE);
    }

    private static void whatASkipBringsStays() {
        says("(in the FLOW: what comes there by a CALL, or as the program begins, is WRITTEN alone; what a SKIP brings to the first INSTRUCTION is as it is)");
        WrittenBench x = of(o(PRINT, 1), o(FREE, 1, 1), o(SET, 2, 0), o(SKIP, 2, -4));
        due("a SKIP brings what was FREED", x.mend(), -1);
        turn(x, 0, 3, SKIP, 2, -3);
        due("not to the first", x.mend(), 1);
        mends("at FUNCTION 0", x, 0, 1);
        WrittenBench y = of(o(CALL, 1));
        add(y, 1, o(PRINT, 1), o(FREE, 1, 1), o(SET, 2, 0), o(SKIP, 2, -4));
        due("in a FUNCTION that is called", y.mend(), -1);
        turn(y, 1, 1, SET, 1, 1);
        y.cost(0, 9);
        due("a SKIP brings what is written", y.mend(), 1);
        mends("at FUNCTION 1", y, 1, 1);
        WrittenBench z = of(o(SKIP, 9, 1), o(CALL, 0), o(PRINT, 1));
        due("the CALL of FUNCTION 0 comes to its begin as well", z.mend(), 2);
        mends("cells 1 and 9", z, 0, 1, 0, 9);
    }

    private static void onlyWhereItCannotBeWritten() {
        says("where by the FLOW what comes there so is not WRITTEN alone (it can't be WRITTEN; and something comes).");
        WrittenBench x = of(o(FREE, 2, 1), o(CALL, 1), o(SET, 2, 1), o(CALL, 1));
        put(x, 1, PRINT, 2);
        due("both come to FUNCTION 1", x.mend(), -1);
        turn(x, 0, 0, SET, 2, 1);
        turn(x, 0, 2, FREE, 2, 1);
        due("both come, the written one first", x.mend(), -1);
        turn(x, 0, 0, FREE, 2, 1);
        due("only unwritten ones come", x.mend(), 1);
        mends("at FUNCTION 1", x, 1, 2);
        WrittenBench y = of(o(CALL, 1), o(SET, 2, 1), o(CALL, 1));
        put(y, 1, PRINT, 2);
        y.cost(0, 99);
        due("at FUNCTION 0 alone", y.mend(), 99);
        mends("at FUNCTION 0 alone", y, 0, 2);
        WrittenBench z = of(o(SET, 0, 0), o(SKIP, 0, 2), o(SET, 1, 1), o(CALL, 0), o(PRINT, 1));
        due("FUNCTION 0, as the program begins not, by the CALL written", z.mend(), -1);
    }

    private static void onlyWhereSomethingComes() {
        says("and something comes).");
        WrittenBench x = of(o(PRINT, 0));
        for (int k = 0; k < 13; k++) put(x, 1, PRINT, k);
        due("FUNCTION 1 is not come to", x.mend(), 1);
        mends("one", x, 0, 0);
        add(x, 0, o(RETURN), o(CALL, 1));
        due("nor by a CALL that is not", x.mend(), 1);
        turn(x, 0, 1, SKIP, 0, 0);
        due("now it is", x.mend(), -2);
    }

    private static void whatComesSoIsByCallsAlone() {
        says("what comes there by a CALL, or as the program begins,");
        WrittenBench x = of(o(CALL, 1));
        add(x, 1, o(PRINT, 2), o(SET, 2, 1), o(SET, 0, 0), o(SKIP, 0, -4));
        due("both are there as the first is come to", x.state(1, 0, 2), 3);
        x.cost(0, 50);
        due("but a MEND is there", x.mend(), 1);
        mends("it", x, 1, 2);
        WrittenBench y = of(o(PRINT, 2), o(SET, 2, 1), o(SET, 0, 0), o(SKIP, 0, -4));
        due("so at FUNCTION 0", y.mend(), 1);
    }

    private static void costBounds() {
        says("Each has the COST of its FUNCTION (1 to 99; 1 at first).");
        WrittenBench x = of(o(PRINT, 0));
        for (int f = 0; f < 6; f++) due("at first", x.count(20 + f), 1);
        due("1 at first", x.mend(), 1);
        says("COST of a MEND at a FUNCTION's begin: what it was; NONE, and nothing happens, for others.");
        for (int f = 0; f < 6; f++) {
            due("99 of " + f, x.cost(f, 99), 1);
            due("1 of " + f, x.cost(f, 1), 99);
            due("98 of " + f, x.cost(f, 98 - f), 1);
        }
        for (int coins : new int[] {0, -1, 100, 101, MIN, MAX}) due(coins + " coins", x.cost(3, coins), NONE);
        for (int f : new int[] {-1, 6, MIN, MAX}) due("FUNCTION " + f, x.cost(f, 5), NONE);
        for (int f = 0; f < 6; f++) due("nothing happened to " + f, x.count(20 + f), 98 - f);
        due("98", x.mend(), 98);
        x.cost(0, 99);
        due("99", x.mend(), 99);
        put(x, 0, PRINT, 1);
        due("twice 99", x.mend(), 198);
        for (int k = 2; k < 12; k++) put(x, 0, PRINT, k);
        due("12 of 99", x.mend(), 1188);
        x.clear(0);
        due("clear leaves the COST", x.count(20), 99);
    }

    private static void whatLeads() {
        says("MENDS that COUNT are those whose cell LEADS to a USE:");
        int[][][] ways = {
            {{PRINT, 0}}, {{SKIP, 0, 0}}, {{SET, 9, 0}, {STORE, 5, 2, 0, 9}}, {{SET, 9, 0}, {LOAD, 5, 9, 1, 0}},
            {{COPY, 1, 0, 1}, {PRINT, 1}}, {{SET, 1, 0}, {ADD, 1, 0}, {PRINT, 1}}, {{SET, 1, 0}, {ADD, 0, 1}, {PRINT, 0}},
            {{SET, 2, 0}, {STORE, 5, 1, 2, 0}, {PRINT, 5}}, {{SET, 2, 0}, {LOAD, 5, 0, 1, 2}, {PRINT, 5}},
            {{SET, 2, 0}, {OUTSIDE, 5, 2}, {STORE, 5, 2, 2, 0}, {PRINT, 6}},
            {{SET, 2, 0}, {OUTSIDE, 1, 1}, {LOAD, 5, 0, 2, 2}, {PRINT, 5}},
            {{SET, 2, 0}, {SKIP, 2, 1}, {SET, 0, 0}, {PRINT, 0}}, {{SET, 2, 0}, {SKIP, 2, 2}, {SET, 3, 0}, {RETURN}, {PRINT, 0}},
            {{COPY, 3, 0, 1}, {COPY, 0, 8, 1}, {COPY, 15, 3, 1}, {PRINT, 15}}};
        for (int w = 0; w < ways.length; w++) {
            WrittenBench x = of(ways[w]);
            due("way " + w, x.mend(), 1);
            mends("way " + w, x, 0, 0);
        }
        WrittenBench two = of(o(SET, 2, 0), o(STORE, 5, 2, 2, 0), o(PRINT, 5));
        due("a STORE of two leaves what it could be", two.mend(), 2);
        mends("both", two, 0, 0, 0, 5);
        WrittenBench any = of(o(SET, 9, 0), o(LOAD, 10, 1, 8, 9), o(PRINT, 10));
        due("a LOAD of eight", any.mend(), 8);
        mends("all eight", any, 0, 1, 0, 2, 0, 3, 0, 4, 0, 5, 0, 6, 0, 7, 0, 8);
    }

    private static void whatDoesNotLead() {
        says("if by THE FLOW (what is come to stays as it is), with that cell alone unwritten at that begin, nothing unwritten elsewhere,");
        // 12 that count; a 13th would be SPENT.
        int[][][] ends = {{{SET, 12, 0}, {PRINT, 12}}, {{READ, 12}, {PRINT, 12}}, {{OUTSIDE, 12, 1}, {PRINT, 12}},
            {{COPY, 12, 0, 1}, {PRINT, 12}}, {{STORE, 12, 1, 0, 0}, {PRINT, 12}}, {{LOAD, 12, 0, 1, 0}, {PRINT, 12}},
            {{COPY, 13, 12, 1}}, {{RETURN}, {PRINT, 12}}, {{ADD, 12, 13}}};
        for (int w = 0; w < ends.length; w++) {
            WrittenBench x = new WrittenBench();
            for (int k = 0; k < 12; k++) put(x, 0, PRINT, k);
            add(x, 0, ends[w]);
            due("end " + w, x.mend(), 12);
            put(x, 0, PRINT, 15);
            due("one that leads more, end " + w, x.mend(), ends[w][0][0] == RETURN ? 12 : -2);
        }
    }

    private static void freeIsLikeOutside() {
        says("and FREE like OUTSIDE, a cell may be unwritten at a USE");
        WrittenBench x = of(o(PRINT, 0), o(FREE, 1, 1), o(PRINT, 1));
        due("none do, but it is not SPENT", x.mend(), -1);
        WrittenBench y = new WrittenBench();
        for (int k = 0; k < 12; k++) put(y, 0, PRINT, k);
        add(y, 0, o(FREE, 12, 1), o(PRINT, 12));
        due("12, and one that FREE cuts", y.mend(), -1);
        turn(y, 0, 12, SET, 15, 0);
        due("13", y.mend(), -2);
        WrittenBench z = of(o(FREE, 3, 1), o(CALL, 1));
        put(z, 1, PRINT, 3);
        due("behind the FREE", z.mend(), 1);
        mends("at FUNCTION 1 alone", z, 1, 3);
        // FREE of what is asked for at another begin cuts the way there, too.
        WrittenBench u = of(o(CALL, 1), o(PRINT, 3));
        put(u, 1, FREE, 3, 1);
        due("FREE on the way back", u.mend(), -1);
    }

    private static void leadsBehindEachCall() {
        says("(what RETURNS goes on behind each CALL of its FUNCTION that is come to)");
        WrittenBench x = of(o(CALL, 1), o(PRINT, 3));
        x.cost(0, 7);
        due("back from an empty FUNCTION", x.mend(), 1);
        mends("at FUNCTION 1", x, 1, 3);
        put(x, 1, CALL, 2);
        x.cost(1, 7);
        due("back from two", x.mend(), 1);
        mends("at FUNCTION 2", x, 2, 3);
        put(x, 2, CALL, 2);
        due("nothing comes back", x.mend(), 0);
        // Behind both CALLS: of 6 cells each of the two begins counts, 12 in all; with a 7th 14.
        WrittenBench y = of(o(CALL, 1));
        for (int k = 0; k < 6; k++) put(y, 0, PRINT, k);
        due("12 of two FUNCTIONS", y.mend(), 6);
        put(y, 0, PRINT, 6);
        due("14", y.mend(), -2);
        WrittenBench z = of(o(CALL, 1), o(RETURN), o(CALL, 1), o(PRINT, 3));
        due("not behind a CALL that is not come to", z.mend(), 0);
    }

    private static void moreThanTwelve() {
        says("by FUNCTIONS, then cells; more than 12 of them: SPENT.");
        for (int n = 0; n <= 16; n++) {
            WrittenBench x = new WrittenBench();
            for (int k = 15; k > 15 - n; k--) put(x, 0, PRINT, k);
            due(n + " of one FUNCTION", x.mend(), n > 12 ? -2 : n);
            for (int k = 0; k < n && n <= 12; k++) due("by cells", x.mended(k, 1), 16 - n + k);
        }
        WrittenBench y = of(o(CALL, 5), o(CALL, 3));
        for (int k = 0; k < 4; k++) put(y, 5, PRINT, k);
        put(y, 0, FREE, 0, 8);
        put(y, 0, CALL, 2);
        for (int k = 0; k < 4; k++) put(y, 2, PRINT, 4 + k);
        // (0, 0) to (0, 3), (2, 4) to (2, 7), (5, 0) to (5, 3); of FUNCTION 3 nothing leads to a USE.
        due("12 of three FUNCTIONS", y.mend(), 8);
        mends("by FUNCTIONS, then cells", y, 0, 0, 0, 1, 0, 2, 0, 3, 2, 4, 2, 5, 2, 6, 2, 7);
        put(y, 2, PRINT, 0);
        due("13 of three", y.mend(), -2);
        turn(y, 2, 4, PRINT, 15);
        due("more of all", y.mend(), -2);
    }

    /** FUNCTION top copies cell 0 to 1 and 2, which FUNCTIONS 1 and 2 use: one MEND there or one each. */
    private static WrittenBench oneOrTwo(int top) {
        WrittenBench x = new WrittenBench();
        if (top != 0) put(x, 0, CALL, top);
        add(x, top, o(COPY, 1, 0, 1), o(COPY, 2, 0, 1), o(CALL, 1), o(CALL, 2));
        put(x, 1, PRINT, 1);
        put(x, 2, PRINT, 2);
        return x;
    }

    private static void theLeastCost() {
        says("Asked for: the set of them with the least COST with which no USE is BAD (all in the FLOW at once);");
        WrittenBench x = oneOrTwo(0);
        due("one is cheaper", x.mend(), 1);
        mends("one", x, 0, 0);
        x.cost(0, 3);
        due("two are cheaper", x.mend(), 2);
        mends("cells 1 and 2 at FUNCTION 1", x, 1, 1, 1, 2);
        x.cost(1, 2);
        due("3 all", x.mend(), 3);
        mends("of 3 and 2 + 1 the first", x, 0, 0);
        x.cost(0, 4);
        due("2 + 1", x.mend(), 3);
        mends("one at each", x, 1, 1, 2, 2);
        x.cost(0, 99);
        x.cost(1, 99);
        x.cost(2, 99);
        due("99", x.mend(), 99);
        mends("one of 99", x, 0, 0);
    }

    private static void theLeastNumber() {
        says("of several with the least number (the k-th one is bit k).");
        WrittenBench x = oneOrTwo(0);
        x.cost(0, 2);
        due("2 or 1 + 1", x.mend(), 2);
        mends("1 is less than 6", x, 0, 0);
        WrittenBench y = oneOrTwo(5);
        y.cost(0, 99);
        y.cost(5, 2);
        due("1 + 1 or 2", y.mend(), 2);
        mends("6 is less than 10 and 16", y, 1, 1, 1, 2);
        y.cost(5, 1);
        due("1", y.mend(), 1);
        mends("the last", y, 5, 0);
        WrittenBench z = of(o(CALL, 4));
        put(z, 4, CALL, 3);
        put(z, 3, PRINT, 8);
        due("any of three", z.mend(), 1);
        mends("the first", z, 0, 8);
        z.cost(0, 2);
        due("any of two", z.mend(), 1);
        mends("FUNCTION 3 comes ahead of 4", z, 3, 8);
    }

    private static void allAtOnce() {
        says("(all in the FLOW at once)");
        // Each of the two is of use only with the other one.
        WrittenBench x = of(o(ADD, 0, 1), o(PRINT, 0));
        due("both", x.mend(), 2);
        mends("both", x, 0, 0, 0, 1);
        // A cell that a FUNCTION sets stays set behind its CALL.
        WrittenBench y = of(o(CALL, 1), o(CALL, 2), o(PRINT, 3));
        put(y, 1, PRINT, 3);
        put(y, 2, PRINT, 3);
        y.cost(0, 9);
        y.cost(2, 9);
        due("one at the first that is called", y.mend(), 1);
        mends("one", y, 1, 3);
        // The MEND of FUNCTION 1 comes to each CALL of it, also when the cell would be written there.
        WrittenBench z = of(o(CALL, 1), o(FREE, 3, 1), o(CALL, 1), o(PRINT, 3));
        z.cost(0, 9);
        due("behind both CALLS", z.mend(), 1);
        mends("one", z, 1, 3);
    }

    private static void mendTells() {
        says("The cheapest MENDS: their COST (0 if no USE is BAD); -1: none do; -2 SPENT.");
        WrittenBench x = new WrittenBench();
        due("empty", x.mend(), 0);
        put(x, 0, SET, 0, 1);
        due("no USE", x.mend(), 0);
        put(x, 0, PRINT, 0);
        due("no BAD one", x.mend(), 0);
        add(x, 3, o(FREE, 1, 1), o(PRINT, 1));
        due("none that is come to", x.mend(), 0);
        put(x, 0, CALL, 3);
        due("none do", x.mend(), -1);
        for (int k = 2; k < 15; k++) put(x, 0, PRINT, k);
        due("SPENT though none do", x.mend(), -2);
        x.clear(3);
        // Cells 2 to 14 at FUNCTION 0 and at FUNCTION 3.
        due("SPENT", x.mend(), -2);
        x.clear(0);
        due("empty again", x.mend(), 0);
        due("nothing of it is changed", x.count(10), 0);
    }

    private static void mendedOfTheLatest() {
        says("Of the latest mend() that told a COST (also when the program was changed since), MEND k what 0: the FUNCTION, 1: the cell.");
        WrittenBench x = of(o(PRINT, 4), o(PRINT, 6));
        mends("ahead of any", x);
        due("2", x.mend(), 2);
        mends("two", x, 0, 4, 0, 6);
        put(x, 0, FREE, 4, 1);
        put(x, 0, PRINT, 4);
        mends("changed since", x, 0, 4, 0, 6);
        due("none do", x.mend(), -1);
        mends("-1 is no COST", x, 0, 4, 0, 6);
        for (int k = 0; k < 16; k++) put(x, 0, PRINT, k);
        due("SPENT", x.mend(), -2);
        mends("-2 is no COST", x, 0, 4, 0, 6);
        x.clear(0);
        mends("cleared", x, 0, 4, 0, 6);
        x.cost(0, 80);
        mends("another COST", x, 0, 4, 0, 6);
        put(x, 0, PRINT, 9);
        due("another", x.mend(), 80);
        mends("one alone", x, 0, 9);
        due("done", x.apply(), true);
        mends("done", x, 0, 9);
        due("0 is a COST", x.mend(), 0);
        mends("of none", x);
    }

    private static void mendedAtItsEdges() {
        says("NONE without it, or for another what.");
        WrittenBench x = new WrittenBench();
        for (int k = 0; k < 12; k++) put(x, 0, PRINT, k);
        due("12", x.mend(), 12);
        for (int k = 0; k < 12; k++) {
            due("FUNCTION of " + k, x.mended(k, 0), 0);
            due("cell of " + k, x.mended(k, 1), k);
        }
        for (int k : new int[] {-1, 12, 13, MIN, MAX}) {
            due("FUNCTION of " + k, x.mended(k, 0), NONE);
            due("cell of " + k, x.mended(k, 1), NONE);
        }
        for (int what : new int[] {-1, 2, 3, MIN, MAX}) due("what " + what, x.mended(0, what), NONE);
    }

    private static void applyPutsSets() {
        says("at each FUNCTION's begin SETS come ahead of what it has, in their order (SKIPS stay as they are): true;");
        WrittenBench x = of(o(PRINT, 9), o(PRINT, 3), o(PRINT, 12), o(FREE, 3, 1), o(CALL, 2), o(CALL, 5));
        add(x, 2, o(PRINT, 3));
        add(x, 5, o(PRINT, 12), o(SET, 1, 7));
        due("4", x.mend(), 4);
        mends("four", x, 0, 3, 0, 9, 0, 12, 2, 3);
        due("done", x.apply(), true);
        int[] counts = {9, 0, 2, 0, 0, 2};
        for (int f = 0; f < 6; f++) due("INSTRUCTIONS of " + f, x.count(10 + f), counts[f]);
        int[] order = {3, 9, 12};
        for (int i = 0; i < 3; i++) {
            for (int k = 0; k < 3; k++) due("SET " + k + " as " + i + " is come to", x.state(0, i, order[k]), k < i ? 1 : 2);
        }
        due("the SET of FUNCTION 2", x.state(2, 1, 3), 1);
        due("ahead of it", x.state(2, 0, 3), 2);
        due("no USE is BAD", x.flow(), 0);
        due("nothing to mend", x.mend(), 0);
        due("run", x.run(), 0);
        due("none is bad in it", x.ran(1), 0);
        due("what is there stays", x.cell(1, 0), 7);
        due("all done", x.ran(0), 13);
        for (int i = 0; i < 5; i++) due("a SET to 0", x.printed(i), 0);
    }

    private static void applySkipsStay() {
        says("(SKIPS stay as they are)");
        WrittenBench x = of(o(PRINT, 3), o(READ, 0), o(SET, 3, 8), o(SKIP, 0, -4), o(SKIP, 1, 1), o(PRINT, 3), o(SET, 2, 2));
        numbers(x, 0, 0, 5);
        due("2", x.mend(), 2);
        mends("cells 1 and 3", x, 0, 1, 0, 3);
        due("done", x.apply(), true);
        due("run", x.run(), 0);
        due("prints", x.ran(4), 3);
        due("the first is SET to 0", x.printed(0), 0);
        due("a SKIP goes to what was the first, not to the SET", x.printed(1), 8);
        due("so again", x.printed(2), 8);
        due("done", x.ran(0), 16);
    }

    private static void applyNoneToBeDone() {
        says("false, and nothing happens: there is none to be done,");
        WrittenBench x = new WrittenBench();
        due("ahead of any", x.apply(), false);
        x.mend();
        due("0 of an empty program", x.apply(), false);
        put(x, 0, PRINT, 0);
        due("no mend() since", x.apply(), false);
        add(x, 0, o(FREE, 0, 1), o(PRINT, 0));
        due("none do", x.mend(), -1);
        due("none told", x.apply(), false);
        due("nothing happened", x.count(10), 3);
        x.clear(0);
        for (int k = 0; k < 16; k++) put(x, 0, PRINT, k);
        due("SPENT", x.mend(), -2);
        due("none told", x.apply(), false);
        due("nothing happened", x.count(10), 16);
        // A COST of 0 takes the place of what was told ahead of it.
        WrittenBench y = of(o(PRINT, 0));
        due("1", y.mend(), 1);
        turn(y, 0, 0, SET, 0, 0);
        due("0", y.mend(), 0);
        due("none of it", y.apply(), false);
        due("nothing happened", y.count(10), 1);
    }

    private static void applyChangedSince() {
        says("the program was changed since,");
        WrittenBench x = of(o(PRINT, 0));
        x.mend();
        put(x, 1, SET, 0, 0);
        due("by code", x.apply(), false);
        x.mend();
        turn(x, 1, 0, SET, 1, 0);
        due("by change", x.apply(), false);
        x.mend();
        x.clear(1);
        due("by clear", x.apply(), false);
        due("nothing happened", x.count(10), 1);
        x.mend();
        // All that is no change of the program, and what is refused.
        put(x, 6, SET, 0, 0);
        put(x, 0, SET, 16, 0);
        turn(x, 0, 1, SET, 0, 0);
        turn(x, 0, 0, SET, 0, 256);
        x.clear(6);
        x.clear(-1);
        numbers(x, 1, 2, 256);
        x.empty();
        x.run();
        x.cost(0, 60);
        x.cost(0, 100);
        x.flow();
        x.needs(0);
        x.writes(0);
        x.witness(0, 0, 4);
        due("by none of these", x.apply(), true);
        due("done", x.count(10), 2);
        due("it is a change", x.apply(), false);
        due("not twice", x.count(10), 2);
        put(x, 0, PRINT, 5);
        due("another", x.mend(), 60);
        due("is done anew", x.apply(), true);
        due("4 now", x.count(10), 4);
        // mend() that tells no COST behind a change does not make the ones ahead fit again.
        WrittenBench y = of(o(PRINT, 0));
        due("1", y.mend(), 1);
        add(y, 0, o(FREE, 0, 1), o(PRINT, 0));
        due("none do", y.mend(), -1);
        due("changed since", y.apply(), false);
    }

    private static void applyMoreThanThirty() {
        says("a FUNCTION would have more than 30,");
        for (int sets = 1; sets <= 12; sets++) {
            for (int n : new int[] {30 - sets, 31 - sets}) {
                WrittenBench x = new WrittenBench();
                for (int k = 0; k < n; k++) put(x, 0, PRINT, k % sets);
                due(sets + " SETS", x.mend(), Math.min(sets, n));
                due(sets + " ahead of " + n, x.apply(), sets + n <= 30);
                due("INSTRUCTIONS", x.count(10), sets + n <= 30 ? 30 : n);
                due("BAD ones", x.flow(), sets + n <= 30 ? 0 : n);
            }
        }
        // FUNCTION 5 has no room: FUNCTION 0 stays as it is, too.
        WrittenBench y = of(o(PRINT, 0), o(FREE, 1, 1), o(CALL, 5));
        for (int k = 0; k < 30; k++) put(y, 5, PRINT, 1);
        due("2", y.mend(), 2);
        mends("one each", y, 0, 0, 5, 1);
        due("no room", y.apply(), false);
        due("FUNCTION 0 stays", y.count(10), 3);
        due("FUNCTION 5 stays", y.count(15), 30);
        due("31 are BAD", y.flow(), 31);
        // A full FUNCTION that gets none is no matter.
        WrittenBench z = of(o(PRINT, 0), o(CALL, 5));
        for (int k = 0; k < 30; k++) put(z, 5, PRINT, 0);
        due("1", z.mend(), 1);
        due("room where it is wanted", z.apply(), true);
        due("3", z.count(10), 3);
        due("30", z.count(15), 30);
    }

    private static void applySkipBelowZero() {
        says("or a SKIP of one that gets SETS goes to a place below 0.");
        for (int at = 0; at < 4; at++) {
            for (int n : new int[] {-30, -at - 3, -at - 2, -at - 1, -1, 30}) {
                WrittenBench x = of(o(PRINT, 1), o(PRINT, 1), o(PRINT, 1), o(PRINT, 1));
                turn(x, 0, at, SKIP, 1, n);
                due("1", x.mend(), 1);
                due("at " + at + " a SKIP of " + n, x.apply(), at + 1 + n >= 0);
                due("INSTRUCTIONS", x.count(10), at + 1 + n >= 0 ? 5 : 4);
            }
        }
        WrittenBench gone = of(o(SET, 2, 0), o(SKIP, 2, -30));
        gone.clear(0);
        put(gone, 0, PRINT, 1);
        due("1", gone.mend(), 1);
        due("a SKIP that is there no more", gone.apply(), true);
        WrittenBench last = new WrittenBench();
        for (int k = 0; k < 28; k++) put(last, 0, PRINT, 1);
        put(last, 0, SKIP, 1, -30);
        due("1", last.mend(), 1);
        due("-30 at 28", last.apply(), false);
        turn(last, 0, 28, SKIP, 1, -29);
        due("1", last.mend(), 1);
        due("-29 at 28", last.apply(), true);
        // Of one that gets none it is no matter; of one that is not come to it is.
        WrittenBench y = of(o(PRINT, 1), o(CALL, 1));
        add(y, 1, o(SET, 0, 0), o(SKIP, 0, -3));
        due("1", y.mend(), 1);
        due("in a FUNCTION that gets none", y.apply(), true);
        WrittenBench z = of(o(PRINT, 1), o(RETURN), o(SKIP, 1, -4));
        due("1", z.mend(), 1);
        due("that is not come to", z.apply(), false);
        due("nothing happened", z.count(10), 3);
        // FUNCTION 5 has such a SKIP: FUNCTION 0 stays as it is, too.
        WrittenBench both = of(o(PRINT, 0), o(FREE, 1, 1), o(CALL, 5));
        add(both, 5, o(SKIP, 1, -2));
        due("2", both.mend(), 2);
        due("refused", both.apply(), false);
        due("FUNCTION 0 stays", both.count(10), 3);
        due("FUNCTION 5 stays", both.count(15), 1);
    }
}
