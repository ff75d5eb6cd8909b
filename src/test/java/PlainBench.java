import java.util.ArrayList;
import java.util.List;
import java.util.TreeSet;

/**
 * The document once more, as near to its words as can be and without any care for speed, so that
 * the bench's answers can be held against it. It shares no code with the bench.
 */
final class PlainBench {
    private static final int NONE = -1;
    private static final int BEFORE_ALL = -2;
    private static final int CHOICE_PLACE = -1;

    /** An INSTRUCTION: the kind and the arguments as put() has them. */
    private record Line(int kind, int a, int b, int c) {
        boolean gives(int v) {
            return kind != 14 && a == v;
        }
    }

    private record End(int how, int y, int b, int c) {
    }

    private static final class Val {
        int kind;
        int block;
        int place;
        int variable = NONE;
        int number = NONE;
        final List<Integer> operands = new ArrayList<>();
    }

    private final List<List<Line>> lines = new ArrayList<>();
    private final List<End> told = new ArrayList<>();

    private boolean fresh = false;
    private final TreeSet<Integer> reached = new TreeSet<>();
    private boolean[][] dom;
    private boolean[][] choice;
    private final List<Val> vals = new ArrayList<>();
    private boolean[][] same;

    private int fuelNow = 1000;
    private int returned = 0;
    private int took = 0;
    private int where = 0;
    private final List<Integer> spoken = new ArrayList<>();

    // ---- I. PROGRAMS

    int block() {
        if (lines.size() == 16) {
            return NONE;
        }
        fresh = false;
        lines.add(new ArrayList<>());
        told.add(new End(0, 0, 0, 0));
        return lines.size() - 1;
    }

    private static boolean in(int n, int low, int high) {
        return n >= low && n <= high;
    }

    private int all() {
        int n = 0;
        for (List<Line> row : lines) {
            n += row.size();
        }
        return n;
    }

    int put(int block, int kind, int a, int b, int c) {
        boolean good = in(block, 0, lines.size() - 1) && in(kind, 0, 14) && in(a, 0, 9)
                && all() < 100;
        good = good && (kind != 1 || in(b, 0, 3));
        good = good && (!in(kind, 2, 13) || in(b, 0, 9));
        good = good && (!in(kind, 3, 13) || in(c, 0, 9));
        if (!good) {
            return NONE;
        }
        fresh = false;
        lines.get(block).add(new Line(kind, a, b, c));
        return all();
    }

    boolean ends(int block, int how, int y, int b, int c) {
        boolean good = in(block, 0, lines.size() - 1) && in(how, 0, 2);
        good = good && (how == 1 || in(y, 0, 9));
        good = good && (how == 0 || in(b, 0, 15));
        good = good && (how != 2 || in(c, 0, 15));
        if (good) {
            fresh = false;
            told.set(block, new End(how, y, b, c));
        }
        return good;
    }

    int clear() {
        int n = lines.size();
        lines.clear();
        told.clear();
        fresh = false;
        return n;
    }

    private End end(int b) {
        End e = told.get(b);
        boolean missing = e.how != 0 && e.b >= lines.size() || e.how == 2 && e.c >= lines.size();
        return missing ? new End(0, 0, 0, 0) : e;
    }

    private TreeSet<Integer> next(int b) {
        TreeSet<Integer> set = new TreeSet<>();
        End e = end(b);
        if (e.how != 0) {
            set.add(e.b);
        }
        if (e.how == 2) {
            set.add(e.c);
        }
        return set;
    }

    private void reach(int b) {
        if (reached.add(b)) {
            for (int n : next(b)) {
                reach(n);
            }
        }
    }

    private List<Integer> before(int b) {
        List<Integer> row = new ArrayList<>();
        for (int p : reached) {
            if (next(p).contains(b)) {
                row.add(p);
            }
        }
        return row;
    }

    private void findDominators() {
        dom = new boolean[16][16];
        for (int a : reached) {
            for (int b : reached) {
                dom[a][b] = b != 0 || a == 0;
            }
        }
        boolean changed = true;
        while (changed) {
            changed = false;
            for (int b : reached) {
                for (int a : reached) {
                    boolean holds = true;
                    for (int p : before(b)) {
                        holds = holds && dom[a][p];
                    }
                    if (dom[a][b] && a != b && b != 0 && !holds) {
                        dom[a][b] = false;
                        changed = true;
                    }
                }
            }
        }
    }

    private int parent(int b) {
        for (int a : reached) {
            boolean is = a != b && dom[a][b];
            for (int other : reached) {
                if (other != b && other != a && dom[other][b]) {
                    is = is && dom[other][a];
                }
            }
            if (is) {
                return a;
            }
        }
        return NONE;
    }

    private boolean inFrontier(int a, int b) {
        boolean some = false;
        for (int p : before(b)) {
            some = some || dom[a][p];
        }
        return some && (a == b || !dom[a][b]);
    }

    // ---- II. VALUED

    private boolean givesIn(int a, int v) {
        for (Line line : lines.get(a)) {
            if (line.gives(v)) {
                return true;
            }
        }
        return a == 0 || choice[a][v];
    }

    private void findChoices() {
        choice = new boolean[16][10];
        boolean changed = true;
        while (changed) {
            changed = false;
            for (int a : reached) {
                for (int b : reached) {
                    for (int v = 0; v < 10; v++) {
                        if (!choice[b][v] && inFrontier(a, b) && givesIn(a, v)) {
                            choice[b][v] = true;
                            changed = true;
                        }
                    }
                }
            }
        }
    }

    private void addVal(int kind, int block, int place, int variable, int number) {
        Val val = new Val();
        val.kind = kind;
        val.block = block;
        val.place = place;
        val.variable = variable;
        val.number = number;
        vals.add(val);
    }

    private void numberVals() {
        vals.clear();
        if (lines.isEmpty()) {
            return;
        }
        addVal(0, 0, BEFORE_ALL, NONE, 0);
        for (int b : reached) {
            for (int v = 0; v < 10; v++) {
                if (choice[b][v]) {
                    addVal(15, b, CHOICE_PLACE, v, NONE);
                }
            }
            for (int i = 0; i < lines.get(b).size(); i++) {
                Line line = lines.get(b).get(i);
                if (line.kind != 2 && line.kind != 14) {
                    addVal(line.kind, b, i, line.a, line.kind <= 1 ? line.b : NONE);
                }
            }
        }
    }

    private int valAt(int block, int place, int variable) {
        for (int n = 0; n < vals.size(); n++) {
            Val val = vals.get(n);
            if (val.block == block && val.place == place
                    && (place != CHOICE_PLACE || val.variable == variable)) {
                return n;
            }
        }
        throw new IllegalStateException("no VALUE where one is due");
    }

    /** The VALUE of a VARIABLE just ahead of a place. */
    private int holds(int block, int place, int variable) {
        for (int i = place - 1; i >= 0; i--) {
            Line line = lines.get(block).get(i);
            if (line.gives(variable)) {
                return line.kind == 2 ? holds(block, i, line.b) : valAt(block, i, variable);
            }
        }
        if (choice[block][variable]) {
            return valAt(block, CHOICE_PLACE, variable);
        }
        return block == 0 ? 0 : holdsAtEnd(parent(block), variable);
    }

    private int holdsAtEnd(int block, int variable) {
        return holds(block, lines.get(block).size(), variable);
    }

    private void findOperands() {
        for (Val val : vals) {
            if (val.kind == 15) {
                for (int p : before(val.block)) {
                    val.operands.add(holdsAtEnd(p, val.variable));
                }
                if (val.block == 0) {
                    val.operands.add(0);
                }
            } else if (val.kind >= 3) {
                Line line = lines.get(val.block).get(val.place);
                val.operands.add(holds(val.block, val.place, line.b));
                val.operands.add(holds(val.block, val.place, line.c));
            }
        }
    }

    // ---- III. CLASSES

    private boolean mayStandTogether(Val u, Val v) {
        if (u.kind != v.kind) {
            return false;
        }
        if (u.kind <= 1) {
            return u.number == v.number;
        }
        if (u.kind == 15 && u.block != v.block) {
            return false;
        }
        boolean straight = true;
        for (int i = 0; i < u.operands.size(); i++) {
            straight = straight && same[u.operands.get(i)][v.operands.get(i)];
        }
        boolean even = u.kind == 3 || u.kind == 5 || in(u.kind, 6, 9);
        return straight || even && same[u.operands.get(0)][v.operands.get(1)]
                && same[u.operands.get(1)][v.operands.get(0)];
    }

    private void findClasses() {
        int n = vals.size();
        same = new boolean[n][n];
        for (boolean[] row : same) {
            java.util.Arrays.fill(row, true);
        }
        boolean changed = true;
        while (changed) {
            changed = false;
            for (int u = 0; u < n; u++) {
                for (int v = 0; v < n; v++) {
                    if (same[u][v] && !mayStandTogether(vals.get(u), vals.get(v))) {
                        same[u][v] = false;
                        changed = true;
                    }
                }
            }
        }
    }

    private int least(int v) {
        int u = 0;
        while (!same[u][v]) {
            u++;
        }
        return u;
    }

    // ---- IV. LED

    private boolean standsAhead(int v, int block, int place) {
        Val val = vals.get(v);
        return val.block == block ? val.place < place : dom[val.block][block];
    }

    private boolean redundant(int v) {
        Val val = vals.get(v);
        for (int u = 0; u < vals.size(); u++) {
            if (u != v && same[u][v] && (standsAhead(u, val.block, val.place)
                    || val.kind == 15 && u < v)) {
                return true;
            }
        }
        return false;
    }

    private int leader(int v, int block, int place) {
        int found = NONE;
        for (int u = 0; u < vals.size(); u++) {
            if (same[u][v] && standsAhead(u, block, place) && !redundant(u)) {
                if (found != NONE) {
                    throw new IllegalStateException("two leaders at one place");
                }
                found = u;
            }
        }
        if (found == NONE) {
            throw new IllegalStateException("no leader at a place");
        }
        return found;
    }

    private int leaderAtEnd(int v, int block) {
        return leader(v, block, lines.get(block).size());
    }

    private void make() {
        if (fresh) {
            return;
        }
        reached.clear();
        if (!lines.isEmpty()) {
            reach(0);
        }
        findDominators();
        findChoices();
        numberVals();
        findOperands();
        findClasses();
        fresh = true;
    }

    // ---- what is asked

    int about(int b, int what) {
        make();
        if (!in(b, 0, lines.size() - 1) || !in(what, 0, 6)) {
            return NONE;
        }
        boolean is = reached.contains(b);
        if (what == 0) {
            return is ? 1 : 0;
        }
        if (what == 3) {
            return lines.get(b).size();
        }
        if (what == 6) {
            return end(b).how;
        }
        if (!is) {
            return NONE;
        }
        int n = 0;
        for (int v = 0; v < 10 && what == 4; v++) {
            n += choice[b][v] ? 1 : 0;
        }
        for (int other : reached) {
            n += what == 5 && inFrontier(b, other) ? 1 : 0;
        }
        return what == 1 ? parent(b) : what == 2 ? before(b).size() : n;
    }

    int predecessor(int b, int i) {
        make();
        List<Integer> row = before(b);
        return in(i, 0, row.size() - 1) ? row.get(i) : NONE;
    }

    int dominates(int a, int b) {
        make();
        return !reached.contains(a) || !reached.contains(b) ? NONE : dom[a][b] ? 1 : 0;
    }

    int meets(int a, int b) {
        make();
        return !reached.contains(a) || !reached.contains(b) ? NONE : inFrontier(a, b) ? 1 : 0;
    }

    int value(int v, int what) {
        make();
        if (!in(v, 0, vals.size() - 1) || !in(what, 0, 6)) {
            return NONE;
        }
        Val val = vals.get(v);
        int[] answers = {val.kind, val.block, val.variable, least(v), redundant(v) ? 1 : 0,
            val.operands.size(), val.number};
        return answers[what];
    }

    int operand(int v, int i) {
        make();
        boolean is = in(v, 0, vals.size() - 1) && in(i, 0, vals.get(v).operands.size() - 1);
        return is ? vals.get(v).operands.get(i) : NONE;
    }

    int led(int v, int i) {
        int told = operand(v, i);
        if (told == NONE || redundant(v)) {
            return NONE;
        }
        Val val = vals.get(v);
        if (val.kind != 15) {
            return leader(told, val.block, val.place);
        }
        List<Integer> ways = before(val.block);
        return i < ways.size() ? leaderAtEnd(told, ways.get(i)) : 0;
    }

    int classOf(int v) {
        return value(v, 3);
    }

    int read(int b, boolean led) {
        make();
        if (!reached.contains(b) || end(b).how == 1) {
            return NONE;
        }
        int v = holdsAtEnd(b, end(b).y);
        return led ? leaderAtEnd(v, b) : v;
    }

    int emits(int b, int i, boolean led) {
        make();
        int seen = 0;
        for (int place = 0; reached.contains(b) && place < lines.get(b).size(); place++) {
            if (lines.get(b).get(place).kind == 14) {
                if (seen == i) {
                    int v = holds(b, place, lines.get(b).get(place).a);
                    return led ? leader(v, b, place) : v;
                }
                seen++;
            }
        }
        return NONE;
    }

    int count(int what) {
        make();
        int classes = 0;
        int redundant = 0;
        int choices = 0;
        for (int v = 0; v < vals.size(); v++) {
            classes += least(v) == v ? 1 : 0;
            redundant += redundant(v) ? 1 : 0;
            choices += vals.get(v).kind == 15 ? 1 : 0;
        }
        int[] answers = {lines.size(), all(), reached.size(), vals.size(), classes, redundant,
            choices};
        return in(what, 0, 6) ? answers[what] : NONE;
    }

    // ---- V. RUNS

    private static int work(int kind, int y, int z) {
        switch (kind) {
            case 3: return (int) ((long) y + z);
            case 4: return (int) ((long) y - z);
            case 5: return (int) ((long) y * z);
            case 6: return y & z;
            case 7: return y | z;
            case 8: return y ^ z;
            case 9: return y == z ? 1 : 0;
            case 10: return y < z ? 1 : 0;
            case 11: return (int) ((long) y << Math.floorMod(z, 32));
            case 12: return (int) Math.floorDiv((long) y, 1L << Math.floorMod(z, 32));
            default: return z == 0 ? 0 : (int) ((long) y / (long) z);
        }
    }

    int run(int form, int a, int b, int c, int d) {
        if (!in(form, 0, 2) || lines.isEmpty()) {
            return NONE;
        }
        make();
        spoken.clear();
        returned = 0;
        took = 0;
        where = 0;
        int[] inputs = {a, b, c, d};
        int[] variables = new int[10];
        Integer[] held = new Integer[vals.size()];
        held[0] = 0;
        int from = NONE;
        while (true) {
            takeChoices(form, from, held);
            for (int i = 0; i < lines.get(where).size(); i++) {
                Line line = lines.get(where).get(i);
                boolean defines = line.kind != 2 && line.kind != 14;
                int v = defines ? valAt(where, i, line.a) : NONE;
                if (form >= 1 && line.kind == 2 || form == 2 && defines && redundant(v)) {
                    continue;
                }
                if (took == fuelNow) {
                    return 1;
                }
                took++;
                step(form, line, i, v, inputs, variables, held);
            }
            if (took == fuelNow) {
                return 1;
            }
            took++;
            End e = end(where);
            int y = e.how == 1 ? 0 : form == 0 ? variables[e.y] : held[read(where, form == 2)];
            if (e.how == 0) {
                returned = y;
                return 0;
            }
            from = where;
            where = e.how == 1 || y != 0 ? e.b : e.c;
        }
    }

    private void takeChoices(int form, int from, Integer[] held) {
        Integer[] was = held.clone();
        List<Integer> ways = before(where);
        int way = from == NONE ? ways.size() : ways.indexOf(from);
        for (int v = 0; v < vals.size(); v++) {
            Val val = vals.get(v);
            if (val.kind == 15 && val.block == where && !(form == 2 && redundant(v))) {
                held[v] = was[form == 2 ? led(v, way) : val.operands.get(way)];
            }
        }
    }

    private void step(int form, Line line, int place, int v, int[] inputs, int[] variables,
            Integer[] held) {
        int given;
        if (line.kind == 0) {
            given = line.b;
        } else if (line.kind == 1) {
            given = inputs[line.b];
        } else if (line.kind == 2) {
            given = variables[line.b];
        } else if (line.kind == 14) {
            int u = holds(where, place, line.a);
            spoken.add(form == 0 ? variables[line.a]
                    : held[form == 1 ? u : leader(u, where, place)]);
            return;
        } else if (form == 0) {
            given = work(line.kind, variables[line.b], variables[line.c]);
        } else if (form == 1) {
            given = work(line.kind, held[operand(v, 0)], held[operand(v, 1)]);
        } else {
            given = work(line.kind, held[led(v, 0)], held[led(v, 1)]);
        }
        if (form == 0) {
            variables[line.a] = given;
        } else {
            held[v] = given;
        }
    }

    int fuel(int f) {
        if (!in(f, 1, 5000)) {
            return NONE;
        }
        int was = fuelNow;
        fuelNow = f;
        return was;
    }

    int ran(int what) {
        int[] answers = {returned, took, spoken.size(), where};
        return in(what, 0, 3) ? answers[what] : 0;
    }

    int emitted(int i) {
        return in(i, 0, Math.min(spoken.size(), 60) - 1) ? spoken.get(i) : 0;
    }
}
