import java.util.ArrayDeque;
import java.util.ArrayList;
import java.util.List;

/**
 * The document told once more, slowly and in another way than WrittenBench tells it, for ModelTest:
 * states are rows of booleans, all places are gone through until nothing moves, every set of mends is
 * tried in the flow itself, and every input of a witness is run.
 */
final class SlowBench {
    static final int NONE = -1;

    final List<List<int[]>> functions = new ArrayList<>();
    final List<Integer> input = new ArrayList<>();
    final int[] coins = {1, 1, 1, 1, 1, 1};
    Result latest = null;
    List<int[]> mends = null;
    boolean changedSince = false;

    SlowBench() {
        for (int f = 0; f < 6; f++) functions.add(new ArrayList<>());
    }

    // ---- the program

    static boolean in(int x, int low, int high) {
        return x >= low && x <= high;
    }

    static boolean valid(int op, int a, int b, int c, int d) {
        // Which of a, b, c, d an op has, and which pairs (cell, length) are rows.
        String[] has = {"ab", "abc", "ab", "a", "a", "ab", "abcd", "abcd", "a", "", "ab", "ab"};
        if (!in(op, 0, 11)) return false;
        int[] args = {a, b, c, d};
        for (int k = 0; k < 4; k++) {
            if (has[op].indexOf("abcd".charAt(k)) < 0 && args[k] != 0) return false;
        }
        switch (op) {
            case 0: return in(a, 0, 15) && in(b, 0, 255);
            case 1: return in(c, 1, 8) && in(a, 0, 16 - c) && in(b, 0, 16 - c);
            case 2: return in(a, 0, 15) && in(b, 0, 15);
            case 3: case 4: return in(a, 0, 15);
            case 5: return in(a, 0, 15) && in(b, -30, 30);
            case 6: return in(b, 1, 8) && in(a, 0, 16 - b) && in(c, 0, 15) && in(d, 0, 15);
            case 7: return in(a, 0, 15) && in(c, 1, 8) && in(b, 0, 16 - c) && in(d, 0, 15);
            case 8: return in(a, 0, 5);
            case 9: return true;
            default: return in(b, 1, 8) && in(a, 0, 16 - b);
        }
    }

    int code(int f, int op, int a, int b, int c, int d) {
        if (!in(f, 0, 5) || functions.get(f).size() == 30 || !valid(op, a, b, c, d)) return NONE;
        functions.get(f).add(new int[] {op, a, b, c, d});
        changedSince = true;
        return functions.get(f).size();
    }

    boolean change(int f, int i, int op, int a, int b, int c, int d) {
        if (!in(f, 0, 5) || !in(i, 0, functions.get(f).size() - 1) || !valid(op, a, b, c, d)) return false;
        functions.get(f).set(i, new int[] {op, a, b, c, d});
        changedSince = true;
        return true;
    }

    int clear(int f) {
        if (!in(f, 0, 5)) return NONE;
        int had = functions.get(f).size();
        functions.get(f).clear();
        changedSince |= had != 0;
        return had;
    }

    int input(int v) {
        if (!in(v, 0, 255) || input.size() == 16) return NONE;
        input.add(v);
        return input.size();
    }

    int empty() {
        int had = input.size();
        input.clear();
        return had;
    }

    int count(int what) {
        if (what == 0) return input.size();
        if (in(what, 10, 15)) return functions.get(what - 10).size();
        if (in(what, 20, 25)) return coins[what - 20];
        return NONE;
    }

    int cost(int f, int c) {
        if (!in(f, 0, 5) || !in(c, 1, 99)) return NONE;
        int was = coins[f];
        coins[f] = c;
        return was;
    }

    // ---- a run

    static final class Result {
        int end;
        int done;
        final List<int[]> bad = new ArrayList<>();
        final List<Integer> prints = new ArrayList<>();
        int[] value = new int[16];
        boolean[] written = new boolean[16];
    }

    Result simulate(List<Integer> numbers) {
        Result r = new Result();
        ArrayDeque<int[]> stack = new ArrayDeque<>();
        stack.push(new int[] {0, 0});
        int next = 0;
        while (true) {
            int[] top = stack.peek();
            int f = top[0];
            int i = top[1];
            if (i < 0 || i >= functions.get(f).size()) {
                stack.pop();
                if (stack.isEmpty()) { r.end = 0; return r; }
                continue;
            }
            if (r.done == 1000) { r.end = 2; return r; }
            r.done++;
            int[] o = functions.get(f).get(i);
            top[1]++;
            int use = useOf(o);
            if (use >= 0 && !r.written[use]) r.bad.add(new int[] {f, i});
            int[] v = r.value.clone();
            boolean[] w = r.written.clone();
            switch (o[0]) {
                case 0: r.value[o[1]] = o[2]; r.written[o[1]] = true; break;
                case 1:
                    for (int k = 0; k < o[3]; k++) {
                        r.value[o[1] + k] = v[o[2] + k];
                        r.written[o[1] + k] = w[o[2] + k];
                    }
                    break;
                case 2: r.value[o[1]] = (v[o[1]] + v[o[2]]) % 256; r.written[o[1]] = w[o[1]] && w[o[2]]; break;
                case 3:
                    r.value[o[1]] = next < numbers.size() ? numbers.get(next) : 0;
                    next++;
                    r.written[o[1]] = true;
                    break;
                case 4: r.prints.add(v[o[1]]); break;
                case 5: if (v[o[1]] == 0) top[1] = i + o[2] + 1; break;
                case 6:
                    if (v[o[3]] >= o[2]) { r.done--; r.end = 1; return r; }
                    r.value[o[1] + v[o[3]]] = v[o[4]];
                    r.written[o[1] + v[o[3]]] = w[o[4]];
                    break;
                case 7:
                    if (v[o[4]] >= o[3]) { r.done--; r.end = 1; return r; }
                    r.value[o[1]] = v[o[2] + v[o[4]]];
                    r.written[o[1]] = w[o[2] + v[o[4]]];
                    break;
                case 8:
                    if (stack.size() == 12) { r.done--; r.end = 3; return r; }
                    stack.push(new int[] {o[1], 0});
                    break;
                case 9: stack.pop(); if (stack.isEmpty()) { r.end = 0; return r; } break;
                case 10: for (int k = 0; k < o[2]; k++) { r.value[o[1] + k] = 0; r.written[o[1] + k] = false; } break;
                default: for (int k = 0; k < o[2]; k++) { r.value[o[1] + k] = 1; r.written[o[1] + k] = true; } break;
            }
        }
    }

    static int useOf(int[] o) {
        return o[0] == 4 || o[0] == 5 ? o[1] : o[0] == 6 ? o[3] : o[0] == 7 ? o[4] : -1;
    }

    int run() {
        latest = simulate(input);
        return latest.end;
    }

    int ran(int what) {
        if (latest == null || !in(what, 0, 5)) return NONE;
        int all = 0;
        for (boolean w : latest.written) all += w ? 1 : 0;
        boolean none = latest.bad.isEmpty();
        int[] answers = {latest.done, latest.bad.size(), none ? NONE : latest.bad.get(0)[0],
            none ? NONE : latest.bad.get(0)[1], latest.prints.size(), all};
        return answers[what];
    }

    int printed(int i) {
        if (latest == null || !in(i, 0, Math.min(40, latest.prints.size()) - 1)) return NONE;
        return latest.prints.get(i);
    }

    int cell(int k, int what) {
        if (latest == null || !in(k, 0, 15) || !in(what, 0, 1)) return NONE;
        return what == 0 ? latest.value[k] : latest.written[k] ? 1 : 0;
    }

    int witness(int f, int i, int l) {
        if (!in(f, 0, 5) || !in(i, 0, functions.get(f).size() - 1) || !in(l, 1, 10)) return -2;
        for (int w = 0; w < 1 << l; w++) {
            List<Integer> bits = new ArrayList<>();
            for (int k = 0; k < l; k++) bits.add(w >> k & 1);
            for (int[] bad : simulate(bits).bad) {
                if (bad[0] == f && bad[1] == i) return w;
            }
        }
        return -1;
    }

    // ---- the flow: at[f][i][cell] is 0 to 3 as state() tells it

    final class Tide {
        final int[][][] at = new int[6][31][16];
        final int[][] begin = new int[6][16];
        final int[][] out = new int[6][16];
        final boolean[][] ahead = new boolean[6][16];
        boolean moved;

        void into(int[] there, int[] state) {
            for (int c = 0; c < 16; c++) {
                if ((there[c] | state[c]) != there[c]) {
                    there[c] |= state[c];
                    moved = true;
                }
            }
        }

        void go(int f, int i, int[] state) {
            int n = functions.get(f).size();
            into(at[f][i < 0 || i > n ? n : i], state);
        }

        void enter(int f, int[] state) {
            into(begin[f], state);
            int[] s = state.clone();
            for (int c = 0; c < 16; c++) if (ahead[f][c]) s[c] = 1;
            go(f, 0, s);
        }

        Tide follow(int root, int[] start) {
            do {
                moved = false;
                enter(root, start);
                for (int f = 0; f < 6; f++) {
                    for (int i = 0; i <= functions.get(f).size(); i++) {
                        if (at[f][i][0] != 0) step(f, i);
                    }
                }
            } while (moved);
            return this;
        }

        void step(int f, int i) {
            int[] s = at[f][i].clone();
            if (i == functions.get(f).size()) { into(out[f], s); return; }
            int[] o = functions.get(f).get(i);
            int[] t = s.clone();
            switch (o[0]) {
                case 0: case 3: t[o[1]] = 1; break;
                case 1: for (int k = 0; k < o[3]; k++) t[o[1] + k] = s[o[2] + k]; break;
                case 2: t[o[1]] = (s[o[1]] & s[o[2]] & 1) | ((s[o[1]] | s[o[2]]) & 2); break;
                case 5: go(f, i + o[2] + 1, s); break;
                case 6:
                    for (int k = 0; k < o[2]; k++) t[o[1] + k] = o[2] == 1 ? s[o[4]] : s[o[1] + k] | s[o[4]];
                    break;
                case 7:
                    t[o[1]] = 0;
                    for (int k = 0; k < o[3]; k++) t[o[1]] |= s[o[2] + k];
                    break;
                case 8:
                    enter(o[1], s);
                    if (out[o[1]][0] != 0) go(f, i + 1, out[o[1]]);
                    return;
                case 9: into(out[f], s); return;
                case 10: for (int k = 0; k < o[2]; k++) t[o[1] + k] = 2; break;
                case 11: for (int k = 0; k < o[2]; k++) t[o[1] + k] = 1; break;
                default: break;
            }
            go(f, i + 1, t);
        }

        List<int[]> bad() {
            List<int[]> all = new ArrayList<>();
            for (int f = 0; f < 6; f++) {
                for (int i = 0; i < functions.get(f).size(); i++) {
                    int use = useOf(functions.get(f).get(i));
                    int s = use < 0 ? 0 : at[f][i][use];
                    if (s >= 2) all.add(new int[] {f, i, use, s == 2 ? 1 : 2});
                }
            }
            return all;
        }
    }

    static int[] all(int state) {
        int[] s = new int[16];
        java.util.Arrays.fill(s, state);
        return s;
    }

    Tide tide() {
        return new Tide().follow(0, all(2));
    }

    int flow() {
        return tide().bad().size();
    }

    int bad(int k, int what) {
        List<int[]> all = tide().bad();
        return in(k, 0, all.size() - 1) && in(what, 0, 3) ? all.get(k)[what] : NONE;
    }

    int state(int f, int i, int cell) {
        if (!in(f, 0, 5) || !in(i, 0, functions.get(f).size()) || !in(cell, 0, 15)) return NONE;
        return tide().at[f][i][cell];
    }

    static String told(List<int[]> rows) {
        StringBuilder b = new StringBuilder();
        for (int[] row : rows) b.append(java.util.Arrays.toString(row));
        return b.toString();
    }

    int needs(int f) {
        if (!in(f, 0, 5)) return NONE;
        String same = told(new Tide().follow(f, all(1)).bad());
        int set = 0;
        for (int c = 0; c < 16; c++) {
            int[] start = all(1);
            start[c] = 2;
            if (!told(new Tide().follow(f, start).bad()).equals(same)) set |= 1 << c;
        }
        return set;
    }

    int writes(int f) {
        if (!in(f, 0, 5)) return NONE;
        Tide t = new Tide().follow(f, all(2));
        int set = 0;
        for (int c = 0; c < 16; c++) if (t.out[f][c] == 1) set |= 1 << c;
        return set;
    }

    // ---- mends

    /** From one cell at one begin over single cells, as a search through pairs of place and cell. */
    boolean leads(Tide t, int f0, int c0) {
        boolean[][][] seen = new boolean[6][31][16];
        ArrayDeque<int[]> todo = new ArrayDeque<>();
        todo.add(new int[] {f0, 0, c0});
        while (!todo.isEmpty()) {
            int[] at = todo.poll();
            int f = at[0];
            int n = functions.get(f).size();
            int i = at[1] < 0 || at[1] > n ? n : at[1];
            int c = at[2];
            if (t.at[f][i][0] == 0 || seen[f][i][c]) continue;
            seen[f][i][c] = true;
            int[] o = i == n ? new int[] {9, 0, 0, 0, 0} : functions.get(f).get(i);
            if (useOf(o) == c) return true;
            boolean stays = true;
            switch (o[0]) {
                case 0: case 3: stays = c != o[1]; break;
                case 1:
                    stays = !in(c, o[1], o[1] + o[3] - 1);
                    if (in(c, o[2], o[2] + o[3] - 1)) todo.add(new int[] {f, i + 1, o[1] + c - o[2]});
                    break;
                case 2: if (c == o[2]) todo.add(new int[] {f, i + 1, o[1]}); break;
                case 5: todo.add(new int[] {f, i + o[2] + 1, c}); break;
                case 6:
                    stays = o[2] > 1 || c != o[1];
                    if (c == o[4]) for (int k = 0; k < o[2]; k++) todo.add(new int[] {f, i + 1, o[1] + k});
                    break;
                case 7:
                    stays = c != o[1];
                    if (in(c, o[2], o[2] + o[3] - 1)) todo.add(new int[] {f, i + 1, o[1]});
                    break;
                case 8: stays = false; todo.add(new int[] {o[1], 0, c}); break;
                case 9:
                    stays = false;
                    for (int g = 0; g < 6; g++) {
                        for (int j = 0; j < functions.get(g).size(); j++) {
                            int[] call = functions.get(g).get(j);
                            if (call[0] == 8 && call[1] == f && t.at[g][j][0] != 0) todo.add(new int[] {g, j + 1, c});
                        }
                    }
                    break;
                case 10: case 11: stays = !in(c, o[1], o[1] + o[2] - 1); break;
                default: break;
            }
            if (stays) todo.add(new int[] {f, i + 1, c});
        }
        return false;
    }

    int mend() {
        Tide t = tide();
        List<int[]> counting = new ArrayList<>();
        for (int f = 0; f < 6; f++) {
            for (int c = 0; c < 16; c++) {
                if (t.begin[f][c] == 2 && leads(t, f, c)) counting.add(new int[] {f, c});
            }
        }
        if (counting.size() > 12) return -2;
        int best = -1;
        int least = -1;
        for (int set = 0; set < 1 << counting.size(); set++) {
            int sum = 0;
            Tide trial = new Tide();
            for (int k = 0; k < counting.size(); k++) {
                if ((set >> k & 1) != 0) {
                    sum += coins[counting.get(k)[0]];
                    trial.ahead[counting.get(k)[0]][counting.get(k)[1]] = true;
                }
            }
            if ((least < 0 || sum < least) && trial.follow(0, all(2)).bad().isEmpty()) {
                best = set;
                least = sum;
            }
        }
        if (least < 0) return -1;
        mends = new ArrayList<>();
        for (int k = 0; k < counting.size(); k++) if ((best >> k & 1) != 0) mends.add(counting.get(k));
        changedSince = false;
        return least;
    }

    int mended(int k, int what) {
        return mends != null && in(k, 0, mends.size() - 1) && in(what, 0, 1) ? mends.get(k)[what] : NONE;
    }

    boolean apply() {
        if (mends == null || mends.isEmpty() || changedSince) return false;
        List<List<int[]>> longer = new ArrayList<>();
        for (int f = 0; f < 6; f++) {
            List<int[]> row = new ArrayList<>();
            for (int[] m : mends) if (m[0] == f) row.add(new int[] {0, m[1], 0, 0, 0});
            boolean gets = !row.isEmpty();
            row.addAll(functions.get(f));
            if (row.size() > 30) return false;
            for (int i = 0; i < functions.get(f).size(); i++) {
                int[] o = functions.get(f).get(i);
                if (gets && o[0] == 5 && i + o[2] + 1 < 0) return false;
            }
            longer.add(row);
        }
        for (int f = 0; f < 6; f++) functions.set(f, longer.get(f));
        changedSince = true;
        return true;
    }
}
