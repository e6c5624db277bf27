import java.util.Random;

/** The sentences that tell of the whole and bound nothing, and what must hold between the answers of one program. */
public final class WholeTest extends Check {
    private static final int PROGRAMS = 4000;

    public static void main(String[] args) {
        whatItIs();
        print();
        statesGoOn();
        runAndWhatItTells();
        summaries();
        mendsAreSets();
        runsStayInTheFlow();
        witnessesShow();
        witnessesAreBad();
        summariesFitTheFlow();
        mendsLeaveNone();
        end("WholeTest");
    }

    /** 0 reads cell 0, calls 1, which writes cell 1 if that is not 0; then a copy of cell 1 is printed. */
    private static WrittenBench story() {
        WrittenBench x = of(o(READ, 0), o(CALL, 1), o(COPY, 2, 1, 1), o(PRINT, 0), o(PRINT, 2), o(PRINT, 3));
        add(x, 1, o(SKIP, 0, 1), o(SET, 1, 9));
        return x;
    }

    private static void whatItIs() {
        says("A finder of reads that nobody wrote ahead: small programs of functions on cells, each cell written or not;");
        WrittenBench x = story();
        says("it runs them with that carried along (a copy of what is unwritten is told where it is used");
        due("run", x.run(), 0);
        due("bad ones: the copy, and what nobody wrote", x.ran(1), 2);
        due("the first is where the copy is used", x.ran(3), 4);
        numbers(x, 1);
        x.run();
        due("written ahead, the copy is right", x.ran(1), 1);
        due("it is printed", x.printed(1), 9);
        says(", follows what may be written and unwritten on all ways through skips and calls,");
        due("behind the CALL, both ways through the SKIP", x.state(0, 2, 1), 3);
        due("and its copy", x.state(0, 4, 2), 3);
        due("on the way that does not skip", x.state(1, 1, 1), 2);
        says("tells each use as right, surely or maybe unwritten,");
        due("two are bad, so PRINT 0 and the SKIP are right", x.flow(), 2);
        due("the copy", x.bad(0, 1), 4);
        due("maybe", x.bad(0, 3), 2);
        due("what nobody wrote", x.bad(1, 1), 5);
        due("surely", x.bad(1, 3), 1);
        says("looks for the least input that shows one,");
        due("a 0", x.witness(0, 4, 3), 0);
        due("any", x.witness(0, 5, 3), 0);
        due("none for a right one", x.witness(0, 3, 3), -1);
        says("and finds the cheapest places to write cells ahead so that none is left.");
        x.cost(0, 5);
        x.cost(1, 2);
        due("cell 1 in FUNCTION 1, cell 3 there too", x.mend(), 4);
        for (int k = 0; k < 2; k++) due("in FUNCTION 1", x.mended(k, 0), 1);
        due("cell 1", x.mended(0, 1), 1);
        due("cell 3", x.mended(1, 1), 3);
        due("apply", x.apply(), true);
        due("none is left", x.flow(), 0);
        x.empty();
        x.run();
        due("none shows", x.ran(1), 0);
    }

    private static void print() {
        says("4 PRINT a.");
        WrittenBench x = of(o(SET, 15, 255), o(PRINT, 15), o(PRINT, 0), o(PRINT, 15));
        due("run", x.run(), 0);
        due("the number of the cell", x.printed(0), 255);
        due("of an unwritten one too", x.printed(1), 0);
        due("again", x.printed(2), 255);
        due("the cell stays", x.cell(15, 0), 255);
        due("an unwritten one is not written by it", x.cell(0, 1), 0);
        due("by THE FLOW neither", x.state(0, 3, 0), 2);
    }

    private static void statesGoOn() {
        says("A STATE tells of each cell whether it may be WRITTEN, whether it may be not.");
        WrittenBench x = of(o(READ, 0), o(SKIP, 0, 1), o(SET, 1, 1), o(PRINT, 0));
        due("written", x.state(0, 3, 0), 1);
        due("both", x.state(0, 3, 1), 3);
        for (int k = 2; k < 16; k++) due("not", x.state(0, 3, k), 2);
        says("Each INSTRUCTION takes a STATE on, to the next one;");
        WrittenBench y = new WrittenBench();
        for (int k = 0; k < 16; k++) put(y, 0, SET, k, k);
        for (int i = 0; i <= 16; i++) {
            for (int k = 0; k < 16; k++) due("cell " + k + " at " + i, y.state(0, i, k), k < i ? 1 : 2);
        }
    }

    private static void runAndWhatItTells() {
        says("A RUN with the INPUT: how it ends.");
        WrittenBench x = of(o(READ, 0), o(SKIP, 0, 3), o(PRINT, 0), o(LOAD, 1, 2, 2, 0), o(PRINT, 1), o(RETURN));
        due("without a number", x.run(), 0);
        due("nothing printed", x.ran(4), 0);
        numbers(x, 1);
        due("a 1", x.run(), 0);
        due("printed", x.printed(0), 1);
        due("the INPUT stays", x.count(0), 1);
        x.empty();
        numbers(x, 2);
        due("a 2 is refused", x.run(), 1);
        says("Of the latest run() what 0: INSTRUCTIONS done,");
        due("READ, SKIP, PRINT", x.ran(0), 3);
        says("4: how many were PRINTED,");
        due("one", x.ran(4), 1);
        x.empty();
        due("run", x.run(), 0);
        due("READ, SKIP, RETURN", x.ran(0), 3);
        due("none", x.ran(4), 0);
        numbers(x, 1);
        x.run();
        due("all", x.ran(0), 6);
        due("two", x.ran(4), 2);
    }

    private static void summaries() {
        says("A SUMMARY of a FUNCTION: it NEEDS a cell if");
        WrittenBench x = new WrittenBench();
        add(x, 3, o(PRINT, 4), o(SET, 5, 1), o(PRINT, 5), o(COPY, 6, 7, 1), o(PRINT, 6));
        due("what it prints or copies to a print", x.needs(3), 1 << 4 | 1 << 7);
        says("it WRITES a cell if,");
        due("what it sets alone", x.writes(3), 1 << 5);
    }

    private static void mendsAreSets() {
        says("A MEND: a cell is SET to 0 at the begin of a FUNCTION");
        WrittenBench x = of(o(PRINT, 2), o(CALL, 4));
        add(x, 4, o(PRINT, 2));
        due("one is enough", x.mend(), 1);
        due("at the begin of FUNCTION 0", x.mended(0, 0), 0);
        says("The MENDS of the latest mend() that told a COST are done:");
        due("apply", x.apply(), true);
        due("one INSTRUCTION more", x.count(10), 3);
        due("none in the other", x.count(14), 1);
        x.run();
        due("it is SET to 0", x.printed(0), 0);
        due("and WRITTEN", x.cell(2, 1), 1);
        due("no USE is BAD", x.flow(), 0);
    }

    private static WrittenBench someProgram(Random random, boolean frees) {
        WrittenBench x = new WrittenBench();
        int functions = 1 + random.nextInt(4);
        for (int f = 0; f < functions; f++) {
            int length = random.nextInt(9);
            for (int k = 0; k < length; k++) someInstruction(x, random, f, functions, frees);
            x.cost(f, 1 + random.nextInt(4));
        }
        int numbers = random.nextInt(5);
        for (int k = 0; k < numbers; k++) x.input(random.nextInt(2));
        return x;
    }

    private static void someInstruction(WrittenBench x, Random random, int f, int functions, boolean frees) {
        int a = random.nextInt(4);
        int b = random.nextInt(4);
        int n = 1 + random.nextInt(2);
        switch (random.nextInt(frees ? 12 : 10)) {
            case 0: put(x, f, SET, a, random.nextInt(3)); break;
            case 1: put(x, f, COPY, a, b, n); break;
            case 2: put(x, f, ADD, a, b); break;
            case 3: put(x, f, READ, a); break;
            case 4: put(x, f, PRINT, a); break;
            case 5: put(x, f, SKIP, a, random.nextInt(7) - 3); break;
            case 6: put(x, f, STORE, a, n, b, random.nextInt(4)); break;
            case 7: put(x, f, LOAD, a, b, n, random.nextInt(4)); break;
            case 8: put(x, f, CALL, random.nextInt(functions)); break;
            case 9: put(x, f, OUTSIDE, a, n); break;
            case 10: put(x, f, FREE, a, n); break;
            default: put(x, f, RETURN); break;
        }
    }

    /** Programs for each property on their own, as an object is used for at most 512 calls. */
    private static WrittenBench program(int seed) {
        return someProgram(new Random(31L * seed + 7), frees(seed));
    }

    private static boolean frees(int seed) {
        return seed % 2 == 0;
    }

    private static boolean isBad(WrittenBench x, int f, int i) {
        int bad = x.flow();
        for (int k = 0; k < bad; k++) {
            if (x.bad(k, 0) == f && x.bad(k, 1) == i) return true;
        }
        return false;
    }

    /** THE FLOW goes all ways, so it has whatever a RUN does. */
    private static void runsStayInTheFlow() {
        says("follows what may be written and unwritten on all ways through skips and calls");
        for (int seed = 0; seed < PROGRAMS; seed++) {
            WrittenBench x = program(seed);
            String of = "program " + seed + ": ";
            int end = x.run();
            if (x.ran(1) > 0) due(of + "what a RUN shows is BAD by THE FLOW", isBad(x, x.ran(2), x.ran(3)), true);
            if (end == 0) cellsStayInTheFlow(x, of, frees(seed));
        }
    }

    /** Programs without FREE have no RETURN either: only their end place leaves FUNCTION 0. */
    private static void cellsStayInTheFlow(WrittenBench x, String of, boolean frees) {
        int written = 0;
        int writes = x.writes(0);
        int length = x.count(10);
        for (int k = 0; k < 16; k++) {
            int is = x.cell(k, 1);
            int bit = is == 1 ? 1 : 2;
            written += is;
            if (!frees) due(of + "cell " + k + " at the end", x.state(0, length, k) & bit, bit);
            if ((writes >> k & 1) == 1) due(of + "WRITES " + k, is, 1);
        }
        due(of + "cells WRITTEN", x.ran(5), written);
    }

    private static void witnessesShow() {
        says("looks for the least input that shows one");
        for (int seed = 0; seed < PROGRAMS; seed++) {
            WrittenBench x = program(seed);
            for (int f = 0; f < 4; f++) {
                int length = x.count(10 + f);
                for (int i = 0; i < length; i++) {
                    int w = x.witness(f, i, 4);
                    if (w >= 0) shows(x, "program " + seed + ": witness of " + f + ", " + i, f, i, w);
                }
            }
        }
    }

    private static void shows(WrittenBench x, String what, int f, int i, int w) {
        x.empty();
        for (int bit = 0; bit < 4; bit++) x.input(w >> bit & 1);
        x.run();
        due(what + " shows a BAD one", x.ran(1) > 0, true);
        due(what + " is the least of more numbers too", x.witness(f, i, 6), w);
    }

    private static void witnessesAreBad() {
        says("has a BAD USE there.");
        for (int seed = 0; seed < PROGRAMS; seed++) {
            WrittenBench x = program(seed);
            int bad = x.flow();
            int withWitness = 0;
            for (int k = 0; k < bad; k++) if (x.witness(x.bad(k, 0), x.bad(k, 1), 3) >= 0) withWitness++;
            int all = 0;
            for (int f = 0; f < 4; f++) {
                int length = x.count(10 + f);
                for (int i = 0; i < length; i++) if (x.witness(f, i, 3) >= 0) all++;
            }
            due("program " + seed + ": a witness of a BAD one alone", all, withWitness);
        }
    }

    /** What is unwritten at a USE comes from the begin or from a FREE, and each cell goes its way alone. */
    private static void summariesFitTheFlow() {
        says("it NEEDS a cell if the FLOW of it (as if it were FUNCTION 0)");
        for (int seed = 0; seed < PROGRAMS; seed++) {
            WrittenBench x = program(seed);
            String of = "program " + seed + ": ";
            if (x.flow() == 0) due(of + "none is BAD, so none is needed", x.needs(0), 0);
            if (!frees(seed)) due(of + "without FREE what is needed is BAD", x.needs(0) == 0, x.flow() == 0);
        }
    }

    private static void mendsLeaveNone() {
        says("finds the cheapest places to write cells ahead so that none is left");
        for (int seed = 0; seed < PROGRAMS; seed++) {
            WrittenBench x = program(seed);
            String of = "program " + seed + ": ";
            int cost = x.mend();
            due(of + "a COST of 0 without a BAD one alone", cost == 0, x.flow() == 0);
            if (cost > 0) appliedLeaveNone(x, of, cost);
        }
    }

    private static void appliedLeaveNone(WrittenBench x, String of, int cost) {
        int[] had = new int[6];
        for (int f = 0; f < 6; f++) had[f] = x.count(10 + f);
        int sum = 0;
        for (int k = 0; x.mended(k, 0) != NONE; k++) {
            int f = x.mended(k, 0);
            had[f]++;
            sum += x.count(20 + f);
            due(of + "it may be unwritten there", x.state(f, 0, x.mended(k, 1)) >> 1, 1);
        }
        due(of + "the COST is that of the MENDS", sum, cost);
        if (!x.apply()) return;
        for (int f = 0; f < 6; f++) due(of + "FUNCTION " + f + " has its SETS", x.count(10 + f), had[f]);
        due(of + "no USE is BAD", x.flow(), 0);
        x.run();
        due(of + "no RUN shows one", x.ran(1), 0);
        due(of + "none more to be mended", x.mend(), 0);
    }
}
