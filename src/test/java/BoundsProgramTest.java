import java.util.function.Consumer;
import java.util.function.ToIntFunction;

/** Promises 1 to 5 and term I: each sentence that names a bound, and each call that is refused. */
public final class BoundsProgramTest {
    private static final Due DUE = new Due("BoundsProgramTest");
    private static final int NONE = ValueBench.NONE;
    private static final int LEAST = Stories.LEAST;
    private static final int MOST = Stories.MOST;
    private static final int[] SIZES = {0, 1, 2, 15, 16};
    // Around all bounds of VARIABLES, INPUTS and BLOCKS, and what a shift or a mask would wrap.
    private static final int[] NUMBERS = {LEAST, LEAST + 1, -32, -16, -10, -1, 0, 1, 2, 3, 4, 8, 9,
        10, 14, 15, 16, 17, 31, 32, 42, 256, 65536, MOST};

    public static void main(String[] args) {
        newObject();
        calls512();
        blockNumbers();
        blockIsFull();
        putCountsAll();
        putBlock();
        putKind();
        putArguments();
        putIsFull();
        putRefusedChangesNothing();
        endsBlock();
        endsHow();
        endsArguments();
        endsRefusedChangesNothing();
        endsToldAgain();
        endsAtFirst();
        endsTellAMissingBlock();
        endsTellTheLastBlock();
        endsBackToVariable0();
        clearAnswers();
        clearLeavesNothing();
        clearLetsAllBeToldAgain();
        clearLeavesNoEnd();
        clearLeavesFuelAndTheLatestRun();
        DUE.end();
    }

    private static boolean in(int n, int low, int high) {
        return n >= low && n <= high;
    }

    /** The call is answered as due behind the story, and all that is shown stays as it was. */
    private static void refused(String call, Consumer<ValueBench> story,
            ToIntFunction<ValueBench> ask, int due) {
        Twins.alike(DUE, call, story, x -> {
            story.accept(x);
            DUE.is(call, ask.applyAsInt(x), due);
        });
    }

    private static void newObject() {
        DUE.of("1: No BLOCKS");
        ValueBench x = new ValueBench();
        DUE.is("count 0", x.count(0), 0);
        DUE.is("INSTRUCTIONS", x.count(1), 0);
        DUE.is("REACHED", x.count(2), 0);
        DUE.is("VALUES", x.count(3), 0);
        DUE.is("CLASSES", x.count(4), 0);
        DUE.is("REDUNDANT", x.count(5), 0);
        DUE.is("CHOICES", x.count(6), 0);
        DUE.is("about 0", x.about(0, 0), NONE);
        DUE.is("VALUE 0", x.value(0, 0), NONE);
        DUE.is("its CLASS", x.classOf(0), NONE);
        DUE.is("the first block", x.block(), 0);
        DUE.is("count 0 with it", x.count(0), 1);
        DUE.is("VALUES with it", x.count(3), 1);
    }

    private static void calls512() {
        DUE.of("An object is used for at most 512 calls");
        int[] due = {510, 4, 2, 4};
        for (int last = 0; last < due.length; last++) {
            ValueBench x = Stories.withBlocks(4);
            x.put(0, 1, 0, 0, 0);
            x.ends(0, 1, 0, 3, 0);
            x.fuel(1000);
            // Seven calls were made, and each turn makes two more.
            for (int n = 8; n <= 510; n += 2) {
                DUE.is("call " + n, x.run(n % 3, n, 0, 0, 0), 0);
                DUE.is("call " + (n + 1), x.ran(0), n);
            }
            int answer = last == 0 ? x.ran(0) : last == 1 ? x.block()
                    : last == 2 ? x.put(3, 0, 0, 0, 0) : x.clear();
            DUE.is("the 512th", answer, due[last]);
        }
    }

    private static void blockNumbers() {
        DUE.of("2: One BLOCK more: its number");
        ValueBench x = new ValueBench();
        for (int b = 0; b < 16; b++) {
            DUE.is("there is none such yet: " + b, x.about(b, 0), NONE);
            DUE.is("block", x.block(), b);
            DUE.is("there it is: " + b, x.about(b, 0), b == 0 ? 1 : 0);
            DUE.is("BLOCKS", x.count(0), b + 1);
        }
    }

    private static void blockIsFull() {
        DUE.of("2: NONE if there are 16");
        DUE.is("one below", Stories.withBlocks(14).block(), 14);
        DUE.is("the last", Stories.withBlocks(15).block(), 15);
        DUE.is("one above", Stories.withBlocks(16).block(), NONE);
        ValueBench x = Stories.withBlocks(16);
        for (int n = 0; n < 20; n++) {
            DUE.is("block again", x.block(), NONE);
            DUE.is("BLOCKS", x.count(0), 16);
        }
        DUE.is("no BLOCK 16", x.about(16, 0), NONE);
        refused("block of 16", Stories::full, ValueBench::block, NONE);
        refused("block of 16 empty ones", y -> {
            for (int b = 0; b < 16; b++) {
                y.block();
            }
        }, ValueBench::block, NONE);
    }

    private static void putCountsAll() {
        DUE.of("3: how many there are in all");
        ValueBench x = Stories.withBlocks(16);
        int[] told = new int[16];
        for (int n = 1; n <= 100; n++) {
            int b = n * n % 16;
            told[b]++;
            DUE.is("put at " + b, x.put(b, n % 15, n % 10, n % 4, n % 10), n);
        }
        for (int b = 0; b < 16; b++) {
            DUE.is("told in " + b, x.about(b, 3), told[b]);
        }
    }

    private static void putBlock() {
        DUE.of("3: there is no such BLOCK");
        for (int blocks : SIZES) {
            for (int block : NUMBERS) {
                boolean there = in(block, 0, blocks - 1);
                for (int kind = 0; kind <= 14; kind += 7) {
                    ValueBench x = Stories.withBlocks(blocks);
                    String call = "put at " + block + " of " + blocks;
                    DUE.is(call, x.put(block, kind, 0, 0, 0), there ? 1 : NONE);
                    DUE.is(call + ", in all", x.count(1), there ? 1 : 0);
                    DUE.is(call + ", there", x.about(block, 3), there ? 1 : NONE);
                }
            }
        }
    }

    private static void putKind() {
        DUE.of("3: there is no such kind");
        for (int kind : NUMBERS) {
            ValueBench x = Stories.withBlocks(1);
            DUE.is("put of kind " + kind, x.put(0, kind, 0, 0, 0), in(kind, 0, 14) ? 1 : NONE);
            DUE.is("in all", x.count(1), in(kind, 0, 14) ? 1 : 0);
        }
        for (int kind = 0; kind <= 14; kind++) {
            ValueBench x = Stories.withBlocks(1);
            DUE.is("put of kind " + kind, x.put(0, kind, 9, 3, 9), 1);
            DUE.is("its VALUE", x.value(1, 0), kind == 2 || kind == 14 ? NONE : kind);
        }
    }

    /** Whether a kind may have this number as its a, b or c (place 0, 1, 2). */
    private static boolean takes(int kind, int place, int number) {
        if (place == 0 || place == 1 && in(kind, 2, 13) || place == 2 && in(kind, 3, 13)) {
            return in(number, 0, 9);
        }
        return place != 1 || kind != 1 || in(number, 0, 3);
    }

    private static void putArguments() {
        DUE.of("3: there is no such VARIABLE (of those that it has), INPUT");
        for (int kind = 0; kind <= 14; kind++) {
            for (int place = 0; place < 3; place++) {
                for (int number : NUMBERS) {
                    int[] row = {0, 0, 0};
                    row[place] = number;
                    boolean good = takes(kind, place, number);
                    ValueBench x = Stories.withBlocks(1);
                    String call = "put of kind " + kind + " " + row[0] + " " + row[1] + " "
                            + row[2];
                    DUE.is(call, x.put(0, kind, row[0], row[1], row[2]), good ? 1 : NONE);
                    DUE.is(call + ", in all", x.count(1), good ? 1 : 0);
                    DUE.is(call + ", behind it", x.put(0, 14, 9, 0, 0), good ? 2 : 1);
                }
            }
        }
    }

    private static void putIsFull() {
        DUE.of("3: or there are 100");
        // All in one BLOCK, the first or the last, or one in each by turns; REACHED or not.
        for (int way = 0; way < 3; way++) {
            for (int kind = 0; kind <= 14; kind++) {
                ValueBench x = Stories.withBlocks(16);
                for (int n = 1; n <= 99; n++) {
                    x.put(way == 0 ? 0 : way == 1 ? 15 : n % 16, n % 15, 0, 0, 0);
                }
                DUE.is("99 told", x.count(1), 99);
                DUE.is("put 100 of kind " + kind, x.put(kind, kind, 0, 0, 0), 100);
                DUE.is("put 101 of kind " + kind, x.put(kind, kind, 0, 0, 0), NONE);
                DUE.is("put 102 of kind " + kind, x.put(15 - kind, kind, 0, 0, 0), NONE);
                DUE.is("100 told", x.count(1), 100);
            }
        }
        ValueBench x = Stories.withBlocks(1);
        for (int n = 1; n <= 100; n++) {
            x.put(0, 0, 0, n, 0);
        }
        DUE.is("all in one BLOCK", x.about(0, 3), 100);
        DUE.is("the last of them", x.value(100, 6), 100);
        DUE.is("none behind it", x.value(101, 6), NONE);
    }

    private static void putRefusedChangesNothing() {
        DUE.of("3: NONE, and none comes");
        refused("put into nothing", Stories::nothing, x -> x.put(0, 0, 0, 0, 0), NONE);
        refused("put at 1 of 1", Stories::entryAlone, x -> x.put(1, 0, 0, 0, 0), NONE);
        refused("put at 6 of 6", Stories::some, x -> x.put(6, 0, 1, 2, 0), NONE);
        refused("put at -1", Stories::some, x -> x.put(-1, 3, 1, 2, 3), NONE);
        refused("put at 16", Stories::full, x -> x.put(16, 0, 1, 2, 0), NONE);
        refused("kind 15", Stories::some, x -> x.put(0, 15, 1, 2, 3), NONE);
        refused("kind -1", Stories::some, x -> x.put(2, -1, 1, 2, 3), NONE);
        refused("CONST of 10", Stories::some, x -> x.put(2, 0, 10, 2, 3), NONE);
        refused("CONST of -1", Stories::some, x -> x.put(2, 0, -1, 2, 3), NONE);
        refused("INPUT 4", Stories::some, x -> x.put(0, 1, 0, 4, 0), NONE);
        refused("INPUT -1", Stories::some, x -> x.put(0, 1, 0, -1, 0), NONE);
        refused("COPY from 10", Stories::some, x -> x.put(2, 2, 3, 10, 0), NONE);
        refused("ADD of 10", Stories::some, x -> x.put(2, 3, 3, 10, 0), NONE);
        refused("DIV by 10", Stories::some, x -> x.put(2, 13, 3, 0, 10), NONE);
        refused("SUB of -1", Stories::some, x -> x.put(1, 4, 3, 0, -1), NONE);
        refused("EMIT 10", Stories::some, x -> x.put(2, 14, 10, 0, 0), NONE);
        refused("EMIT -1", Stories::some, x -> x.put(3, 14, -1, 0, 0), NONE);
        refused("the 101st", Stories::full, x -> x.put(0, 0, 1, 2, 0), NONE);
        refused("the 101st, an EMIT", Stories::full, x -> x.put(15, 14, 1, 0, 0), NONE);
    }

    private static void endsBlock() {
        DUE.of("4: false: there is no such BLOCK");
        for (int blocks : SIZES) {
            for (int block : NUMBERS) {
                for (int how = 0; how <= 2; how++) {
                    ValueBench x = Stories.withBlocks(blocks);
                    DUE.is("ends " + block + " of " + blocks, x.ends(block, how, 0, 0, 0),
                            in(block, 0, blocks - 1));
                    DUE.is("how", x.about(block, 6), in(block, 0, blocks - 1) ? how : NONE);
                }
            }
        }
    }

    private static void endsHow() {
        DUE.of("4: false: how is not 0, 1, 2");
        for (int how : NUMBERS) {
            ValueBench x = Stories.withBlocks(1);
            DUE.is("how " + how, x.ends(0, how, 0, 0, 0), in(how, 0, 2));
            DUE.is("ends so", x.about(0, 6), in(how, 0, 2) ? how : 0);
        }
    }

    /** Whether an END may have this number as its y, b or c (place 0, 1, 2). */
    private static boolean endTakes(int how, int place, int number) {
        switch (place) {
            case 0:
                return how == 1 || in(number, 0, 9);
            case 1:
                return how == 0 || in(number, 0, 15);
            default:
                // JUMP has no c, so none of it is looked at.
                return how != 2 || in(number, 0, 15);
        }
    }

    private static void endsArguments() {
        DUE.of("4: false: y is no VARIABLE (of RETURN, BRANCH), b or c is not 0 to 15");
        for (int blocks : new int[] {1, 16}) {
            for (int how = 0; how <= 2; how++) {
                for (int place = 0; place < 3; place++) {
                    for (int number : NUMBERS) {
                        int[] row = {0, 0, 0};
                        row[place] = number;
                        ValueBench x = Stories.withBlocks(blocks);
                        DUE.is("ends " + how + " " + row[0] + " " + row[1] + " " + row[2],
                                x.ends(0, how, row[0], row[1], row[2]),
                                endTakes(how, place, number));
                    }
                }
            }
        }
    }

    private static void endsRefusedChangesNothing() {
        DUE.of("4: false, and nothing changes");
        int[][] rows = {{6, 0, 0, 0, 0}, {-1, 0, 0, 0, 0}, {0, 3, 0, 3, 3}, {0, -1, 0, 3, 3},
            {1, 0, 10, 0, 0}, {1, 0, -1, 0, 0}, {1, 2, 10, 3, 4}, {1, 2, -1, 3, 4},
            {1, 1, 0, 16, 0}, {1, 1, 0, -1, 0}, {1, 2, 0, 16, 4}, {1, 2, 0, -1, 4},
            {1, 2, 0, 4, 16}, {1, 2, 0, 4, -1}, {4, 0, 10, 0, 0}, {5, 1, 0, 16, 0}};
        for (int[] r : rows) {
            refused("ends " + r[0] + " " + r[1] + " " + r[2] + " " + r[3] + " " + r[4],
                    Stories::some, x -> x.ends(r[0], r[1], r[2], r[3], r[4]) ? 1 : 0, 0);
        }
        refused("ends of nothing", Stories::nothing, x -> x.ends(0, 0, 0, 0, 0) ? 1 : 0, 0);
        refused("ends of 16", Stories::full, x -> x.ends(16, 0, 0, 0, 0) ? 1 : 0, 0);
    }

    private static void endsToldAgain() {
        DUE.of("4: The END of a BLOCK: true");
        ValueBench x = Stories.withBlocks(16);
        for (int b = 0; b < 10; b++) {
            x.put(0, 0, b, 40 + b, 0);
        }
        for (int n = 0; n < 10; n++) {
            DUE.is("RETURN " + n, x.ends(0, 0, n, LEAST, MOST), true);
            DUE.is("reads", x.read(0, false), 1 + n);
            DUE.is("JUMP " + n, x.ends(0, 1, MOST, n + 6, 0), true);
            DUE.is("told", x.about(n + 6, 0), 1);
            DUE.is("no more", x.about(n + 5, 0), 0);
            DUE.is("BRANCH " + n, x.ends(0, 2, n, 15, n + 1), true);
            DUE.is("reads", x.read(0, false), 1 + n);
            DUE.is("told", x.about(15, 0), 1);
            DUE.is("told, too", x.about(n + 1, 0), 1);
        }
        Twins.alike(DUE, "the same END twice", Stories::some, y -> {
            Stories.some(y);
            y.ends(1, 2, 0, 2, 3);
        });
    }

    private static void endsAtFirst() {
        DUE.of("I: at first each is RETURN of VARIABLE 0");
        ValueBench x = Stories.withBlocks(16);
        x.put(0, 0, 0, 33, 0);
        x.put(0, 0, 9, 34, 0);
        for (int b = 1; b < 16; b++) {
            x.ends(0, 1, 0, b, 0);
            DUE.is("how " + b + " ends", x.about(b, 6), 0);
            DUE.is("what it reads", x.read(b, false), 1);
            DUE.is("run", x.run(b % 3, 0, 0, 0, 0), 0);
            DUE.is("returned", x.ran(0), 33);
            DUE.is("where", x.ran(3), b);
        }
        ValueBench y = Stories.withBlocks(1);
        DUE.is("of the ENTRY", y.read(0, true), 0);
        DUE.is("which runs", y.run(0, 0, 0, 0, 0), 0);
    }

    /** The ENTRY gives VARIABLE 0 and 1, and the END that is told counts as RETURN of 0. */
    private static void countsAsReturn(String told, ValueBench x) {
        DUE.is(told + ": how", x.about(0, 6), 0);
        DUE.is(told + ": reads", x.read(0, false), 1);
        DUE.is(told + ": reads in LED", x.read(0, true), 1);
        DUE.is(told + ": REACHED", x.count(2), 1);
        DUE.is(told + ": PREDECESSORS", x.about(0, 2), 0);
        for (int form = 0; form <= 2; form++) {
            DUE.is(told + ": run", x.run(form, 0, 0, 0, 0), 0);
            DUE.is(told + ": returned", x.ran(0), 5);
            DUE.is(told + ": where", x.ran(3), 0);
        }
    }

    private static ValueBench twoConsts(int blocks) {
        ValueBench x = Stories.withBlocks(blocks);
        x.put(0, 0, 0, 5, 0);
        x.put(0, 0, 1, 6, 0);
        return x;
    }

    private static void endsTellAMissingBlock() {
        DUE.of("I: Where an END tells a BLOCK that there is not (yet)");
        for (int blocks = 1; blocks <= 15; blocks++) {
            for (int missing = blocks; missing <= 15; missing++) {
                int[][] ends = {{1, 1, missing, 0}, {2, 1, missing, 0}, {2, 1, 0, missing},
                    {2, 1, missing, missing}};
                for (int[] e : ends) {
                    ValueBench x = twoConsts(blocks);
                    String told = "END " + e[0] + " " + e[2] + " " + e[3] + " of " + blocks;
                    DUE.is(told, x.ends(0, e[0], e[1], e[2], e[3]), true);
                    countsAsReturn(told, x);
                    for (int b = blocks; b < missing; b++) {
                        x.block();
                    }
                    countsAsReturn(told + ", one too few", x);
                    DUE.is(told + ": it comes", x.block(), missing);
                    DUE.is(told + ": how now", x.about(0, 6), e[0]);
                    DUE.is(told + ": REACHED now", x.about(missing, 0), 1);
                    DUE.is(told + ": reads now", x.read(0, false), e[0] == 1 ? NONE
                            : 2 + x.about(0, 4));
                }
            }
        }
    }

    private static void endsTellTheLastBlock() {
        DUE.of("I: .. but one that there is counts as it is told");
        for (int blocks = 1; blocks <= 16; blocks++) {
            int last = blocks - 1;
            int[][] ends = {{1, 0, last, 0}, {2, 1, last, 0}, {2, 1, 0, last}, {2, 1, last, last}};
            for (int[] e : ends) {
                ValueBench x = twoConsts(blocks);
                x.ends(0, e[0], e[1], e[2], e[3]);
                DUE.is("how " + e[0] + " to " + last, x.about(0, 6), e[0]);
                DUE.is("REACHED " + last, x.about(last, 0), 1);
                DUE.is("told by the ENTRY", x.predecessor(last, 0), 0);
            }
        }
    }

    private static void endsBackToVariable0() {
        DUE.of("I: .. it is RETURN of VARIABLE 0");
        for (int y = 0; y <= 9; y++) {
            ValueBench x = Stories.withBlocks(1);
            for (int v = 0; v <= 9; v++) {
                x.put(0, 0, v, 40 + v, 0);
            }
            x.ends(0, 2, y, 0, 15);
            DUE.is("BRANCH of " + y + " reads", x.read(0, false), 1);
            DUE.is("in LED", x.read(0, true), 1);
            DUE.is("run", x.run(y % 3, 0, 0, 0, 0), 0);
            DUE.is("returned", x.ran(0), 40);
            x.ends(0, 0, y, 0, 15);
            DUE.is("RETURN of " + y + " reads", x.read(0, false), 1 + y);
        }
    }

    private static void clearAnswers() {
        DUE.of("5: how many there were");
        for (int blocks = 0; blocks <= 16; blocks++) {
            ValueBench x = Stories.withBlocks(blocks);
            DUE.is("clear of " + blocks, x.clear(), blocks);
            DUE.is("clear again", x.clear(), 0);
            DUE.is("BLOCKS", x.count(0), 0);
        }
        ValueBench x = Stories.withBlocks(16);
        DUE.is("a refused one isn't counted", x.block(), NONE);
        DUE.is("clear", x.clear(), 16);
    }

    private static void clearLeavesNothing() {
        DUE.of("5: No BLOCKS");
        Twins.alike(DUE, "clear of all that can be told", Stories::nothing, x -> {
            Stories.full(x);
            x.clear();
        });
        Twins.alike(DUE, "clear of all, once asked for", Stories::nothing, x -> {
            Stories.full(x);
            x.count(3);
            x.clear();
        });
        Twins.alike(DUE, "clear of nothing", Stories::nothing, ValueBench::clear);
        Twins.alike(DUE, "some behind clear of all", Stories::some, x -> {
            Stories.full(x);
            x.count(3);
            x.clear();
            Stories.some(x);
        });
        Twins.alike(DUE, "a block behind clear of all", Stories::entryAlone, x -> {
            Stories.full(x);
            x.clear();
            x.block();
        });
    }

    private static void clearLetsAllBeToldAgain() {
        DUE.of("5: .. so all can be told again");
        ValueBench x = new ValueBench();
        Stories.full(x);
        x.clear();
        DUE.is("put with no BLOCK", x.put(0, 0, 0, 0, 0), NONE);
        DUE.is("ends with no BLOCK", x.ends(0, 0, 0, 0, 0), false);
        for (int b = 0; b < 16; b++) {
            DUE.is("block", x.block(), b);
            DUE.is("ends anew", x.about(b, 6), 0);
            DUE.is("told in it", x.about(b, 3), 0);
        }
        DUE.is("a 17th", x.block(), NONE);
        for (int n = 1; n <= 100; n++) {
            DUE.is("put", x.put(n % 16, 0, 0, n, 0), n);
        }
        DUE.is("a 101st", x.put(0, 0, 0, 0, 0), NONE);
    }

    private static void clearLeavesNoEnd() {
        DUE.of("5, I: .. and at first each END is RETURN of VARIABLE 0 again");
        for (int how = 0; how <= 2; how++) {
            ValueBench x = Stories.withBlocks(16);
            for (int b = 0; b < 16; b++) {
                x.ends(b, how, 9, (b + 1) % 16, (b + 2) % 16);
            }
            x.clear();
            for (int b = 0; b < 16; b++) {
                x.block();
                x.put(b, 0, 0, 50 + b, 0);
            }
            for (int b = 0; b < 16; b++) {
                // Each is told by the ENTRY in its turn; the ENTRY itself is asked first.
                DUE.is("told alone", b == 0 || x.ends(0, 1, 0, b, 0), true);
                DUE.is("how " + b + " ends", x.about(b, 6), 0);
                DUE.is("what it reads", x.read(b, false), b == 0 ? 1 : 2);
                DUE.is("run", x.run(b % 3, 0, 0, 0, 0), 0);
                DUE.is("returned", x.ran(0), 50 + b);
            }
        }
    }

    private static void clearLeavesFuelAndTheLatestRun() {
        DUE.of("5, 17, 18: FUEL from now on, the latest run(): clear() tells nothing of them");
        ValueBench x = new ValueBench();
        Stories.some(x);
        int[] ran = {x.ran(0), x.ran(1), x.ran(2), x.ran(3)};
        int emitted = x.emitted(1);
        x.clear();
        for (int what = 0; what <= 3; what++) {
            DUE.is("ran " + what, x.ran(what), ran[what]);
        }
        DUE.is("emitted", x.emitted(1), emitted);
        DUE.is("fuel", x.fuel(1), 77);
    }
}
