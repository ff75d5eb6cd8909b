import java.util.Arrays;

/**
 * A bench of value numbers: programs of blocks over variables, the values they are made to,
 * the classes of these, and runs of all three forms. The words in capitals are the document's.
 */
public final class ValueBench {
    public static final int NONE = -1;

    private static final int MOST_BLOCKS = 16;
    private static final int MOST_INSTRUCTIONS = 100;
    private static final int VARIABLES = 10;
    private static final int INPUTS = 4;
    private static final int MOST_KEPT = 60;
    private static final int MOST_FUEL = 5000;
    private static final int FIRST_FUEL = 1000;

    // ZERO, a CHOICE for each VARIABLE of each BLOCK, and one for each INSTRUCTION.
    private static final int MOST_VALUES = 1 + MOST_BLOCKS * VARIABLES + MOST_INSTRUCTIONS;
    // All ENDS together tell two BLOCKS for each BLOCK at most; the ENTRY's CHOICES take ZERO, too.
    private static final int MOST_OPERANDS =
            2 * MOST_INSTRUCTIONS + VARIABLES * (2 * MOST_BLOCKS + 1);

    private static final int CONST = 0;
    private static final int INPUT = 1;
    private static final int COPY = 2;
    private static final int ADD = 3;
    private static final int SUB = 4;
    private static final int MUL = 5;
    private static final int AND = 6;
    private static final int OR = 7;
    private static final int XOR = 8;
    private static final int EQ = 9;
    private static final int LESS = 10;
    private static final int SHL = 11;
    private static final int SHR = 12;
    private static final int DIV = 13;
    private static final int EMIT = 14;
    private static final int CHOICE = 15;

    private static final int RETURN = 0;
    private static final int JUMP = 1;
    private static final int BRANCH = 2;

    private static final int TOLD = 0;
    private static final int VALUED = 1;
    private static final int LED = 2;

    private static final int RETURNED = 0;
    private static final int OUT = 1;

    private static final int ENTRY = 0;
    private static final int ZERO = 0;

    private final Program program;
    private final Graph graph;
    private final Values values;
    private final Classes classes;
    private final Leaders leaders;
    private final Form toldForm;
    private final Form valuedForm;
    private final Form ledForm;
    private final Machine machine;
    // What is made of the program is made anew only when it is asked for, not at each call.
    private boolean stale;

    public ValueBench() {
        program = new Program();
        graph = new Graph();
        values = new Values();
        classes = new Classes();
        leaders = new Leaders();
        toldForm = new ToldForm(program);
        valuedForm = new ValueForm(program, graph, values, null);
        ledForm = new ValueForm(program, graph, values, leaders);
        machine = new Machine(program);
        stale = true;
    }

    public int block() {
        if (program.blocks >= MOST_BLOCKS) {
            return NONE;
        }
        stale = true;
        program.blocks++;
        return program.blocks - 1;
    }

    public int put(int block, int kind, int a, int b, int c) {
        if (!program.has(block) || program.instructions() >= MOST_INSTRUCTIONS
                || !Program.fits(kind, a, b, c)) {
            return NONE;
        }
        stale = true;
        if (kind == EMIT) {
            program.insert(block, kind, NONE, a, NONE);
        } else {
            program.insert(block, kind, a, b, c);
        }
        return program.instructions();
    }

    public boolean ends(int block, int how, int y, int b, int c) {
        if (!program.has(block) || !Program.endFits(how, y, b, c)) {
            return false;
        }
        stale = true;
        program.setEnd(block, how, y, b, c);
        return true;
    }

    public int clear() {
        int before = program.blocks;
        stale = true;
        program.forget();
        return before;
    }

    public int about(int b, int what) {
        if (!program.has(b)) {
            return NONE;
        }
        refresh();
        switch (what) {
            case 0:
                return graph.reaches(b) ? 1 : 0;
            case 3:
                return program.first[b + 1] - program.first[b];
            case 6:
                return program.howCounts(b);
            default:
                return graph.reaches(b) ? aboutReached(b, what) : NONE;
        }
    }

    private int aboutReached(int b, int what) {
        switch (what) {
            case 1:
                return graph.parent[b];
            case 2:
                return Integer.bitCount(graph.comes[b]);
            case 4:
                return values.choices[b];
            case 5:
                return Integer.bitCount(graph.frontier[b]);
            default:
                return NONE;
        }
    }

    public int predecessor(int b, int i) {
        refresh();
        return graph.reaches(b) ? Graph.nthOf(graph.comes[b], i) : NONE;
    }

    public int dominates(int a, int b) {
        refresh();
        if (!graph.reaches(a) || !graph.reaches(b)) {
            return NONE;
        }
        return Graph.isIn(graph.dominated[a], b) ? 1 : 0;
    }

    public int meets(int a, int b) {
        refresh();
        if (!graph.reaches(a) || !graph.reaches(b)) {
            return NONE;
        }
        return Graph.isIn(graph.frontier[a], b) ? 1 : 0;
    }

    public int value(int v, int what) {
        refresh();
        if (!values.has(v)) {
            return NONE;
        }
        switch (what) {
            case 0:
                return values.kind[v];
            case 1:
                return values.block[v];
            case 2:
                return values.variable[v];
            case 3:
                return classes.least[v];
            case 4:
                return leaders.redundant[v] ? 1 : 0;
            case 5:
                return values.operandsOf(v);
            case 6:
                return values.number[v];
            default:
                return NONE;
        }
    }

    public int operand(int v, int i) {
        refresh();
        return values.hasOperand(v, i) ? values.reads.operands[values.firstOperand[v] + i] : NONE;
    }

    public int led(int v, int i) {
        refresh();
        if (!values.hasOperand(v, i) || leaders.redundant[v]) {
            return NONE;
        }
        return leaders.reads.operands[values.firstOperand[v] + i];
    }

    public int classOf(int v) {
        refresh();
        return values.has(v) ? classes.least[v] : NONE;
    }

    public int read(int b, boolean led) {
        refresh();
        return graph.reaches(b) ? readsOf(led).ends[b] : NONE;
    }

    public int emits(int b, int i, boolean led) {
        refresh();
        if (!graph.reaches(b)) {
            return NONE;
        }
        int instruction = program.nthEmit(b, i);
        return instruction == NONE ? NONE : readsOf(led).emits[instruction];
    }

    private Reads readsOf(boolean led) {
        return led ? leaders.reads : values.reads;
    }

    public int run(int form, int a, int b, int c, int d) {
        if (program.blocks == 0 || form < TOLD || form > LED) {
            return NONE;
        }
        refresh();
        machine.takeInputs(a, b, c, d);
        return machine.perform(form == TOLD ? toldForm : form == VALUED ? valuedForm : ledForm);
    }

    public int fuel(int f) {
        if (f < 1 || f > MOST_FUEL) {
            return NONE;
        }
        int before = machine.limit;
        machine.limit = f;
        return before;
    }

    public int ran(int what) {
        switch (what) {
            case 0:
                return machine.returned;
            case 1:
                return machine.used;
            case 2:
                return machine.numbers;
            case 3:
                return machine.at;
            default:
                return 0;
        }
    }

    public int emitted(int i) {
        return i >= 0 && i < MOST_KEPT && i < machine.numbers ? machine.kept[i] : 0;
    }

    public int count(int what) {
        refresh();
        switch (what) {
            case 0:
                return program.blocks;
            case 1:
                return program.instructions();
            case 2:
                return Integer.bitCount(graph.reached);
            case 3:
                return values.size;
            case 4:
                return classes.size;
            case 5:
                return leaders.redundantOnes;
            case 6:
                return values.allChoices();
            default:
                return NONE;
        }
    }

    private void refresh() {
        if (!stale) {
            return;
        }
        graph.draw(program);
        values.make(program, graph);
        classes.part(values);
        leaders.lead(program, graph, values, classes);
        stale = false;
    }

    /** The program as it is told. */
    private static final class Program {
        // INSTRUCTIONS stand sorted by BLOCKS: those of b are first[b] up to first[b + 1].
        final int[] first = new int[MOST_BLOCKS + 1];
        final int[] kind = new int[MOST_INSTRUCTIONS];
        final int[] x = new int[MOST_INSTRUCTIONS];
        // A VARIABLE, or n of CONST, or k of INPUT.
        final int[] y = new int[MOST_INSTRUCTIONS];
        final int[] z = new int[MOST_INSTRUCTIONS];
        final int[] how = new int[MOST_BLOCKS];
        final int[] endY = new int[MOST_BLOCKS];
        final int[] endB = new int[MOST_BLOCKS];
        final int[] endC = new int[MOST_BLOCKS];
        int blocks;

        static boolean isVariable(int v) {
            return v >= 0 && v < VARIABLES;
        }

        static boolean isBlockNumber(int b) {
            return b >= 0 && b < MOST_BLOCKS;
        }

        static boolean fits(int kind, int a, int b, int c) {
            if (kind < CONST || kind > EMIT || !isVariable(a)) {
                return false;
            }
            switch (kind) {
                case CONST:
                case EMIT:
                    return true;
                case INPUT:
                    return b >= 0 && b < INPUTS;
                case COPY:
                    return isVariable(b);
                default:
                    return isVariable(b) && isVariable(c);
            }
        }

        static boolean endFits(int how, int y, int b, int c) {
            switch (how) {
                case RETURN:
                    return isVariable(y);
                case JUMP:
                    return isBlockNumber(b);
                case BRANCH:
                    return isVariable(y) && isBlockNumber(b) && isBlockNumber(c);
                default:
                    return false;
            }
        }

        boolean has(int b) {
            return b >= 0 && b < blocks;
        }

        int instructions() {
            return first[MOST_BLOCKS];
        }

        void insert(int block, int newKind, int newX, int newY, int newZ) {
            int at = first[block + 1];
            int behind = instructions() - at;
            insertAt(kind, at, behind, newKind);
            insertAt(x, at, behind, newX);
            insertAt(y, at, behind, newY);
            insertAt(z, at, behind, newZ);
            for (int b = block + 1; b <= MOST_BLOCKS; b++) {
                first[b]++;
            }
        }

        private static void insertAt(int[] row, int at, int behind, int number) {
            System.arraycopy(row, at, row, at + 1, behind);
            row[at] = number;
        }

        void setEnd(int block, int newHow, int newY, int newB, int newC) {
            how[block] = newHow;
            endY[block] = newHow == JUMP ? 0 : newY;
            endB[block] = newHow == RETURN ? 0 : newB;
            // JUMP tells its BLOCK twice, so that who asks for both need not ask how it ends.
            endC[block] = newHow == BRANCH ? newC : endB[block];
        }

        void forget() {
            blocks = 0;
            Arrays.fill(first, 0);
            // A new BLOCK takes these as they are, so they are RETURN of VARIABLE 0 again.
            Arrays.fill(how, RETURN);
            Arrays.fill(endY, 0);
        }

        private boolean endCounts(int b) {
            return how[b] == RETURN || has(endB[b]) && has(endC[b]);
        }

        int howCounts(int b) {
            return endCounts(b) ? how[b] : RETURN;
        }

        /** The VARIABLE that the END reads, if it is not JUMP. */
        int endVariable(int b) {
            return endCounts(b) ? endY[b] : 0;
        }

        int next(int b, boolean notZero) {
            return notZero ? endB[b] : endC[b];
        }

        /** The BLOCKS that the END tells, as bits. */
        int toldBlocks(int b) {
            return howCounts(b) == RETURN ? 0 : 1 << endB[b] | 1 << endC[b];
        }

        int nthEmit(int b, int n) {
            int seen = 0;
            for (int i = first[b]; i < first[b + 1]; i++) {
                if (kind[i] == EMIT) {
                    if (seen == n) {
                        return i;
                    }
                    seen++;
                }
            }
            return NONE;
        }
    }

    /** The ways through the program. Sets of BLOCKS are the bits of a number. */
    private static final class Graph {
        final int[] tells = new int[MOST_BLOCKS];
        final int[] comes = new int[MOST_BLOCKS];
        final int[] dominated = new int[MOST_BLOCKS];
        final int[] dominators = new int[MOST_BLOCKS];
        final int[] parent = new int[MOST_BLOCKS];
        final int[] frontier = new int[MOST_BLOCKS];
        int reached;

        static boolean isIn(int set, int b) {
            return (set >> b & 1) != 0;
        }

        static int nthOf(int set, int n) {
            int seen = 0;
            for (int b = 0; b < MOST_BLOCKS; b++) {
                if (isIn(set, b)) {
                    if (seen == n) {
                        return b;
                    }
                    seen++;
                }
            }
            return NONE;
        }

        /** How many of the set have lesser numbers than b. */
        static int placeIn(int set, int b) {
            return Integer.bitCount(set & (1 << b) - 1);
        }

        static int union(int set, int[] rows) {
            int all = 0;
            for (int b = 0; b < MOST_BLOCKS; b++) {
                if (isIn(set, b)) {
                    all |= rows[b];
                }
            }
            return all;
        }

        /** The seeds and all that rows lead to from them, never through the barred ones. */
        static int closure(int seeds, int[] rows, int barred) {
            int seen = seeds & ~barred;
            int before = 0;
            for (int round = 0; round < MOST_BLOCKS && seen != before; round++) {
                before = seen;
                seen |= union(seen, rows) & ~barred;
            }
            return seen;
        }

        /** Turns rows around: b is in the answer's row a if a is in the row of b. */
        static void turnAround(int[] rows, int[] turned) {
            for (int a = 0; a < MOST_BLOCKS; a++) {
                turned[a] = 0;
                for (int b = 0; b < MOST_BLOCKS; b++) {
                    if (isIn(rows[b], a)) {
                        turned[a] |= 1 << b;
                    }
                }
            }
        }

        boolean reaches(int b) {
            return b >= 0 && b < MOST_BLOCKS && isIn(reached, b);
        }

        void draw(Program program) {
            for (int b = 0; b < MOST_BLOCKS; b++) {
                tells[b] = program.has(b) ? program.toldBlocks(b) : 0;
            }
            reached = program.has(ENTRY) ? closure(1 << ENTRY, tells, 0) : 0;
            for (int b = 0; b < MOST_BLOCKS; b++) {
                if (!isIn(reached, b)) {
                    tells[b] = 0;
                }
            }
            turnAround(tells, comes);
            for (int a = 0; a < MOST_BLOCKS; a++) {
                dominated[a] = reached & ~closure(reached & 1 << ENTRY, tells, 1 << a);
            }
            turnAround(dominated, dominators);
            for (int b = 0; b < MOST_BLOCKS; b++) {
                parent[b] = parentOf(b);
                frontier[b] = frontierOf(b);
            }
        }

        private int parentOf(int b) {
            int others = dominators[b] & ~(1 << b);
            for (int a = 0; a < MOST_BLOCKS; a++) {
                // Those that dominate b dominate one another in a row; the last is the PARENT.
                if (isIn(others, a) && dominators[a] == others) {
                    return a;
                }
            }
            return NONE;
        }

        private int frontierOf(int a) {
            int set = 0;
            for (int b = 0; b < MOST_BLOCKS; b++) {
                boolean strictly = a != b && isIn(dominated[a], b);
                if ((dominated[a] & comes[b]) != 0 && !strictly) {
                    set |= 1 << b;
                }
            }
            return set;
        }
    }

    /** What a form of VALUES reads, where it reads. */
    private static final class Reads {
        final int[] operands = new int[MOST_OPERANDS];
        // By INSTRUCTIONS: what an EMIT reads.
        final int[] emits = new int[MOST_INSTRUCTIONS];
        // By BLOCKS: what the END reads, or NONE.
        final int[] ends = new int[MOST_BLOCKS];
    }

    /** VALUED. */
    private static final class Values {
        final int[] kind = new int[MOST_VALUES];
        final int[] block = new int[MOST_VALUES];
        final int[] variable = new int[MOST_VALUES];
        final int[] number = new int[MOST_VALUES];
        // OPERANDS of v stand in reads.operands from firstOperand[v] up to firstOperand[v + 1].
        final int[] firstOperand = new int[MOST_VALUES + 1];
        final Reads reads = new Reads();
        // By INSTRUCTIONS: the VALUE that it defines, or NONE.
        final int[] given = new int[MOST_INSTRUCTIONS];
        final int[] firstChoice = new int[MOST_BLOCKS];
        final int[] choices = new int[MOST_BLOCKS];
        // By VARIABLES: the BLOCKS, as bits, that have a CHOICE of it.
        final int[] choosing = new int[VARIABLES];
        // The VALUE of VARIABLE v at the end of BLOCK b stands at b * VARIABLES + v.
        final int[] atEnd = new int[MOST_BLOCKS * VARIABLES];
        int size;

        boolean has(int v) {
            return v >= 0 && v < size;
        }

        int operandsOf(int v) {
            return firstOperand[v + 1] - firstOperand[v];
        }

        boolean hasOperand(int v, int i) {
            return has(v) && i >= 0 && i < operandsOf(v);
        }

        int allChoices() {
            int all = 0;
            for (int b = 0; b < MOST_BLOCKS; b++) {
                all += choices[b];
            }
            return all;
        }

        void make(Program program, Graph graph) {
            placeChoices(program, graph);
            numberAll(program, graph);
            for (int depth = 1; depth <= MOST_BLOCKS; depth++) {
                for (int b = 0; b < MOST_BLOCKS; b++) {
                    // A PARENT has one fewer that dominate it, so its end is known by then.
                    if (graph.reaches(b) && Integer.bitCount(graph.dominators[b]) == depth) {
                        beginBlock(graph, b);
                        followBlock(program, b);
                    }
                }
            }
            fillChoices(graph);
        }

        private void placeChoices(Program program, Graph graph) {
            for (int v = 0; v < VARIABLES; v++) {
                int giving = 1 << ENTRY | givingBlocks(program, v) & graph.reached;
                int all = Graph.closure(giving, graph.frontier, 0);
                choosing[v] = Graph.union(all, graph.frontier);
            }
        }

        private static int givingBlocks(Program program, int v) {
            int set = 0;
            for (int b = 0; b < MOST_BLOCKS; b++) {
                for (int i = program.first[b]; i < program.first[b + 1]; i++) {
                    // EMIT gives no VARIABLE: its x is NONE.
                    if (program.x[i] == v) {
                        set |= 1 << b;
                    }
                }
            }
            return set;
        }

        private void numberAll(Program program, Graph graph) {
            size = 0;
            Arrays.fill(choices, 0);
            Arrays.fill(given, NONE);
            // ZERO is of the ENTRY: without BLOCKS there is none, and so no VALUE.
            if (graph.reaches(ENTRY)) {
                add(CONST, ENTRY, NONE, 0, 0);
            }
            for (int b = 0; b < MOST_BLOCKS; b++) {
                if (graph.reaches(b)) {
                    numberChoices(graph, b);
                    numberInstructions(program, b);
                }
            }
        }

        private void numberChoices(Graph graph, int b) {
            int operands = Integer.bitCount(graph.comes[b]) + (b == ENTRY ? 1 : 0);
            firstChoice[b] = size;
            for (int v = 0; v < VARIABLES; v++) {
                if (Graph.isIn(choosing[v], b)) {
                    add(CHOICE, b, v, NONE, operands);
                    choices[b]++;
                }
            }
        }

        private void numberInstructions(Program program, int b) {
            for (int i = program.first[b]; i < program.first[b + 1]; i++) {
                int itsKind = program.kind[i];
                if (itsKind == COPY || itsKind == EMIT) {
                    continue;
                }
                given[i] = size;
                if (itsKind == CONST || itsKind == INPUT) {
                    add(itsKind, b, program.x[i], program.y[i], 0);
                } else {
                    add(itsKind, b, program.x[i], NONE, 2);
                }
            }
        }

        private void add(int newKind, int newBlock, int newVariable, int newNumber, int operands) {
            kind[size] = newKind;
            block[size] = newBlock;
            variable[size] = newVariable;
            number[size] = newNumber;
            firstOperand[size + 1] = (size == 0 ? 0 : firstOperand[size]) + operands;
            size++;
        }

        private void beginBlock(Graph graph, int b) {
            int row = b * VARIABLES;
            int parent = graph.parent[b];
            for (int v = 0; v < VARIABLES; v++) {
                atEnd[row + v] = parent == NONE ? ZERO : atEnd[parent * VARIABLES + v];
            }
            for (int v = firstChoice[b]; v < firstChoice[b] + choices[b]; v++) {
                atEnd[row + variable[v]] = v;
            }
        }

        private void followBlock(Program program, int b) {
            int row = b * VARIABLES;
            for (int i = program.first[b]; i < program.first[b + 1]; i++) {
                int itsKind = program.kind[i];
                if (itsKind == EMIT) {
                    reads.emits[i] = atEnd[row + program.y[i]];
                } else if (itsKind == COPY) {
                    atEnd[row + program.x[i]] = atEnd[row + program.y[i]];
                } else {
                    int v = given[i];
                    if (itsKind != CONST && itsKind != INPUT) {
                        reads.operands[firstOperand[v]] = atEnd[row + program.y[i]];
                        reads.operands[firstOperand[v] + 1] = atEnd[row + program.z[i]];
                    }
                    atEnd[row + program.x[i]] = v;
                }
            }
            boolean jumps = program.howCounts(b) == JUMP;
            reads.ends[b] = jumps ? NONE : atEnd[row + program.endVariable(b)];
        }

        private void fillChoices(Graph graph) {
            for (int b = 0; b < MOST_BLOCKS; b++) {
                for (int v = firstChoice[b]; v < firstChoice[b] + choices[b]; v++) {
                    fillChoice(v, graph.comes[b]);
                }
            }
        }

        private void fillChoice(int v, int predecessors) {
            int at = firstOperand[v];
            for (int p = 0; p < MOST_BLOCKS; p++) {
                if (Graph.isIn(predecessors, p)) {
                    reads.operands[at] = atEnd[p * VARIABLES + variable[v]];
                    at++;
                }
            }
            if (block[v] == ENTRY) {
                reads.operands[at] = ZERO;
            }
        }
    }

    /** The coarsest CONGRUENCE: all that might stand together does at first, and is parted. */
    private static final class Classes {
        final int[] least = new int[MOST_VALUES];
        // Half-parted rows would part too much, so the next parting stands in a row of its own.
        final int[] finer = new int[MOST_VALUES];
        int size;

        void part(Values values) {
            for (int v = 0; v < values.size; v++) {
                least[v] = leastAlike(values, v);
            }
            boolean parted = true;
            // Each round but the last makes one CLASS more at least.
            for (int round = 0; round <= MOST_VALUES && parted; round++) {
                parted = partFiner(values);
            }
            size = 0;
            for (int v = 0; v < values.size; v++) {
                size += least[v] == v ? 1 : 0;
            }
        }

        private int leastAlike(Values values, int v) {
            for (int u = 0; u < v; u++) {
                if (least[u] == u && alike(values, u, v)) {
                    return u;
                }
            }
            return v;
        }

        private static boolean alike(Values values, int u, int v) {
            // The number is NONE of all but CONST and INPUT.
            return values.kind[u] == values.kind[v]
                    && values.number[u] == values.number[v]
                    && (values.kind[u] != CHOICE || values.block[u] == values.block[v]);
        }

        private boolean partFiner(Values values) {
            boolean parted = false;
            for (int v = 0; v < values.size; v++) {
                finer[v] = leastTogether(values, v);
                parted = parted || finer[v] != least[v];
            }
            System.arraycopy(finer, 0, least, 0, values.size);
            return parted;
        }

        private int leastTogether(Values values, int v) {
            for (int u = least[v]; u < v; u++) {
                if (finer[u] == u && least[u] == least[v] && operandsAgree(values, u, v)) {
                    return u;
                }
            }
            return v;
        }

        private boolean operandsAgree(Values values, int u, int v) {
            int ofU = values.firstOperand[u];
            int ofV = values.firstOperand[v];
            int operands = values.operandsOf(u);
            boolean straight = true;
            for (int i = 0; i < operands && straight; i++) {
                straight = together(values, ofU + i, ofV + i);
            }
            return straight || isEven(values.kind[u])
                    && together(values, ofU, ofV + 1) && together(values, ofU + 1, ofV);
        }

        private boolean together(Values values, int i, int j) {
            return least[values.reads.operands[i]] == least[values.reads.operands[j]];
        }

        private static boolean isEven(int kind) {
            return kind == ADD || kind == MUL || kind == AND || kind == OR || kind == XOR
                    || kind == EQ;
        }
    }

    /** LED. */
    private static final class Leaders {
        final boolean[] redundant = new boolean[MOST_VALUES];
        final Reads reads = new Reads();
        int redundantOnes;

        void lead(Program program, Graph graph, Values values, Classes classes) {
            redundantOnes = 0;
            for (int v = 0; v < values.size; v++) {
                redundant[v] = isLed(graph, values, classes, v);
                redundantOnes += redundant[v] ? 1 : 0;
            }
            for (int v = 0; v < values.size; v++) {
                if (!redundant[v]) {
                    leadOperands(graph, values, classes, v);
                }
            }
            for (int b = 0; b < MOST_BLOCKS; b++) {
                if (graph.reaches(b)) {
                    leadEmits(program, graph, values, classes, b);
                    int end = values.reads.ends[b];
                    reads.ends[b] = end == NONE ? NONE : leader(graph, values, classes, end, b);
                }
            }
        }

        private static boolean isLed(Graph graph, Values values, Classes classes, int v) {
            int itsClass = classes.least[v];
            int itsBlock = values.block[v];
            for (int u = itsClass; u < values.size; u++) {
                // In one BLOCK what comes first has the lesser number, CHOICES among them.
                if (classes.least[u] == itsClass
                        && (values.block[u] == itsBlock
                                ? u < v : Graph.isIn(graph.dominated[values.block[u]], itsBlock))) {
                    return true;
                }
            }
            return false;
        }

        /**
         * The LEADER in a BLOCK, at a place behind v. The place in the BLOCK need not be known:
         * one of the CLASS that came behind it would come behind v, too, and be REDUNDANT.
         */
        private int leader(Graph graph, Values values, Classes classes, int v, int b) {
            int itsClass = classes.least[v];
            for (int u = itsClass; u < values.size; u++) {
                if (classes.least[u] == itsClass && !redundant[u]
                        && Graph.isIn(graph.dominated[values.block[u]], b)) {
                    return u;
                }
            }
            return v;
        }

        private void leadOperands(Graph graph, Values values, Classes classes, int v) {
            int itsBlock = values.block[v];
            int start = values.firstOperand[v];
            for (int i = 0; i < values.operandsOf(v); i++) {
                int place = itsBlock;
                if (values.kind[v] == CHOICE) {
                    int from = Graph.nthOf(graph.comes[itsBlock], i);
                    // Behind the PREDECESSORS there is ZERO alone, which leads everywhere.
                    place = from == NONE ? ENTRY : from;
                }
                int old = values.reads.operands[start + i];
                reads.operands[start + i] = leader(graph, values, classes, old, place);
            }
        }

        private void leadEmits(Program program, Graph graph, Values values, Classes classes,
                int b) {
            for (int i = program.first[b]; i < program.first[b + 1]; i++) {
                if (program.kind[i] == EMIT) {
                    reads.emits[i] = leader(graph, values, classes, values.reads.emits[i], b);
                }
            }
        }
    }

    /** A form as it is run: INSTRUCTIONS read cells and write to one. */
    private abstract static class Form {
        final int[] cells;

        Form(int size) {
            cells = new int[size];
        }

        /** Takes all that there is to take as BLOCK b begins; from is NONE as a RUN begins. */
        abstract void begin(int from, int b);

        /** Whether INSTRUCTION i is in this form. */
        abstract boolean keeps(int i);

        abstract int target(int i);

        abstract int left(int i);

        abstract int right(int i);

        abstract int endCell(int b);
    }

    /** TOLD: the cells are the VARIABLES. */
    private static final class ToldForm extends Form {
        private final Program program;

        ToldForm(Program program) {
            super(VARIABLES);
            this.program = program;
        }

        @Override
        void begin(int from, int b) {
            if (from == NONE) {
                Arrays.fill(cells, 0);
            }
        }

        @Override
        boolean keeps(int i) {
            return true;
        }

        @Override
        int target(int i) {
            return program.x[i];
        }

        @Override
        int left(int i) {
            return program.y[i];
        }

        @Override
        int right(int i) {
            return program.z[i];
        }

        @Override
        int endCell(int b) {
            return program.endVariable(b);
        }
    }

    /** VALUED, or LED if there are leaders: the cells are the VALUES; ZERO's is never written. */
    private static final class ValueForm extends Form {
        private final Program program;
        private final Graph graph;
        private final Values values;
        private final Leaders leaders;
        private final Reads reads;
        private final int[] taken = new int[VARIABLES];

        ValueForm(Program program, Graph graph, Values values, Leaders leaders) {
            super(MOST_VALUES);
            this.program = program;
            this.graph = graph;
            this.values = values;
            this.leaders = leaders;
            this.reads = leaders == null ? values.reads : leaders.reads;
        }

        private boolean goes(int v) {
            return leaders != null && leaders.redundant[v];
        }

        @Override
        void begin(int from, int b) {
            int choices = values.choices[b];
            int first = values.firstChoice[b];
            int comes = graph.comes[b];
            int way = from == NONE ? Integer.bitCount(comes) : Graph.placeIn(comes, from);
            // One CHOICE may read another of its BLOCK, as it was: so all are read ahead.
            for (int i = 0; i < choices; i++) {
                if (!goes(first + i)) {
                    taken[i] = cells[reads.operands[values.firstOperand[first + i] + way]];
                }
            }
            for (int i = 0; i < choices; i++) {
                if (!goes(first + i)) {
                    cells[first + i] = taken[i];
                }
            }
        }

        @Override
        boolean keeps(int i) {
            int v = values.given[i];
            return v == NONE ? program.kind[i] == EMIT : !goes(v);
        }

        @Override
        int target(int i) {
            return values.given[i];
        }

        @Override
        int left(int i) {
            if (program.kind[i] == EMIT) {
                return reads.emits[i];
            }
            return reads.operands[values.firstOperand[values.given[i]]];
        }

        @Override
        int right(int i) {
            return reads.operands[values.firstOperand[values.given[i]] + 1];
        }

        @Override
        int endCell(int b) {
            return reads.ends[b];
        }
    }

    /** What runs a form, and keeps what the latest RUN did. */
    private static final class Machine {
        private final Program program;
        final int[] inputs = new int[INPUTS];
        final int[] kept = new int[MOST_KEPT];
        int limit = FIRST_FUEL;
        int returned;
        int used;
        int numbers;
        int at;

        Machine(Program program) {
            this.program = program;
        }

        void takeInputs(int a, int b, int c, int d) {
            inputs[0] = a;
            inputs[1] = b;
            inputs[2] = c;
            inputs[3] = d;
        }

        int perform(Form form) {
            returned = 0;
            used = 0;
            numbers = 0;
            at = ENTRY;
            int from = NONE;
            // Each BLOCK takes FUEL for its END at least, so there are no more turns than this.
            for (int turn = 0; turn <= limit; turn++) {
                form.begin(from, at);
                if (!followBlock(form) || !pay()) {
                    return OUT;
                }
                int how = program.howCounts(at);
                int read = how == JUMP ? 0 : form.cells[form.endCell(at)];
                if (how == RETURN) {
                    returned = read;
                    return RETURNED;
                }
                from = at;
                at = program.next(at, read != 0);
            }
            return OUT;
        }

        private boolean pay() {
            if (used >= limit) {
                return false;
            }
            used++;
            return true;
        }

        private boolean followBlock(Form form) {
            for (int i = program.first[at]; i < program.first[at + 1]; i++) {
                if (form.keeps(i)) {
                    if (!pay()) {
                        return false;
                    }
                    follow(form, i);
                }
            }
            return true;
        }

        private void follow(Form form, int i) {
            int[] cells = form.cells;
            int kind = program.kind[i];
            switch (kind) {
                case CONST:
                    cells[form.target(i)] = program.y[i];
                    break;
                case INPUT:
                    cells[form.target(i)] = inputs[program.y[i]];
                    break;
                case COPY:
                    cells[form.target(i)] = cells[form.left(i)];
                    break;
                case EMIT:
                    tell(cells[form.left(i)]);
                    break;
                default:
                    cells[form.target(i)] = compute(kind, cells[form.left(i)],
                            cells[form.right(i)]);
                    break;
            }
        }

        private void tell(int number) {
            if (numbers < MOST_KEPT) {
                kept[numbers] = number;
            }
            numbers++;
        }

        private static int compute(int kind, int y, int z) {
            switch (kind) {
                case ADD:
                    return y + z;
                case SUB:
                    return y - z;
                case MUL:
                    return y * z;
                case AND:
                    return y & z;
                case OR:
                    return y | z;
                case XOR:
                    return y ^ z;
                case EQ:
                    return y == z ? 1 : 0;
                case LESS:
                    return y < z ? 1 : 0;
                case SHL:
                    return y << (z & 31);
                case SHR:
                    return y >> (z & 31);
                case DIV:
                    return divide(y, z);
                default:
                    return 0;
            }
        }

        private static int divide(int y, int z) {
            if (z == 0) {
                return 0;
            }
            // The least number by -1 goes round to itself; to negate says so without dividing.
            return z == -1 ? -y : y / z;
        }
    }
}
