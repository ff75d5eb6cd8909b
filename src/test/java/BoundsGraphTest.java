/** Promises 6 to 9: each sentence that names a bound, and each question without an answer. */
public final class BoundsGraphTest {
    private static final Due DUE = new Due("BoundsGraphTest");
    private static final int NONE = ValueBench.NONE;
    private static final int[] SIZES = {0, 1, 2, 15, 16};
    private static final int[] NUMBERS = {Stories.LEAST, -32, -17, -16, -1, 0, 1, 2, 3, 4, 5, 6, 7,
        8, 14, 15, 16, 17, 31, 32, 33, 47, 48, 64, 65536, Stories.MOST};

    public static void main(String[] args) {
        aboutBlock();
        aboutWhat();
        aboutNotReached();
        reachedOnes();
        reachedFarAway();
        parentOfTheEntry();
        parents();
        predecessorCounts();
        instructionsTold();
        choicesFromNoneToTen();
        frontierSizes();
        howAsItCounts();
        predecessorNumbers();
        predecessorsOnce();
        predecessorsReached();
        dominatesItself();
        dominatesNotReached();
        dominatesAllOrNone();
        meetsItself();
        meetsNotReached();
        meetsOfDominators();
        DUE.end();
    }

    private static boolean in(int n, int low, int high) {
        return n >= low && n <= high;
    }

    private static void jumps(ValueBench x, int... way) {
        for (int i = 0; i + 1 < way.length; i++) {
            x.ends(way[i], 1, 0, way[i + 1], 0);
        }
    }

    private static void aboutBlock() {
        DUE.of("6: NONE if there is none such");
        for (int blocks : SIZES) {
            for (int b : NUMBERS) {
                ValueBench x = Stories.withBlocks(blocks);
                for (int next = 0; next + 1 < blocks; next++) {
                    x.ends(next, 1, 0, next + 1, 0);
                }
                boolean there = in(b, 0, blocks - 1);
                int[] due = {1, b == 0 ? NONE : b - 1, b == 0 ? 0 : 1, 0, 0, 0,
                    b == blocks - 1 ? 0 : 1};
                for (int what = 0; what <= 6; what++) {
                    DUE.is("about " + b + " " + what + " of " + blocks, x.about(b, what),
                            there ? due[what] : NONE);
                }
            }
        }
    }

    private static void aboutWhat() {
        DUE.of("6: NONE for another what");
        ValueBench x = new ValueBench();
        Stories.full(x);
        // 9 is told by 7 and 8, and tells 10 and 11.
        int[] due = {1, 0, 2, 6, 10, 2, 2};
        for (int what : NUMBERS) {
            DUE.is("about 9 " + what, x.about(9, what), in(what, 0, 6) ? due[what] : NONE);
        }
        ValueBench y = Stories.withBlocks(2);
        for (int what : NUMBERS) {
            DUE.is("of one not REACHED " + what, y.about(1, what),
                    what == 0 || what == 3 || what == 6 ? 0 : NONE);
        }
    }

    private static void aboutNotReached() {
        DUE.of("6: NONE of 1, 2, 4, 5 for one that is not REACHED");
        ValueBench x = Stories.withBlocks(4);
        // 2 goes round itself and on to 3, but nothing tells 2.
        x.put(2, 0, 0, 1, 0);
        x.put(2, 14, 0, 0, 0);
        x.ends(2, 2, 0, 2, 3);
        x.ends(3, 1, 0, 0, 0);
        int[][] due = {{0, NONE, NONE, 2, NONE, NONE, 2}, {0, NONE, NONE, 0, NONE, NONE, 1}};
        for (int b = 2; b <= 3; b++) {
            for (int what = 0; what <= 6; what++) {
                DUE.is("about " + b + " " + what, x.about(b, what), due[b - 2][what]);
            }
        }
        DUE.is("the ENTRY isn't told by 3", x.about(0, 2), 0);
        x.ends(0, 1, 0, 2, 0);
        // Now VARIABLE 0 has a CHOICE in 2, whose FRONTIER is 2 itself and the ENTRY.
        int[][] now = {{1, 0, 2, 2, 1, 2, 2}, {1, 2, 1, 0, 0, 1, 1}};
        for (int b = 2; b <= 3; b++) {
            for (int what = 0; what <= 6; what++) {
                DUE.is("now about " + b + " " + what, x.about(b, what), now[b - 2][what]);
            }
        }
    }

    private static void reachedOnes() {
        DUE.of("I: REACHED are the ENTRY and what the ENDS of REACHED ones tell");
        ValueBench x = Stories.withBlocks(16);
        DUE.is("the ENTRY", x.about(0, 0), 1);
        DUE.is("alone", x.count(2), 1);
        for (int b = 1; b < 16; b++) {
            x.ends(b, 2, 0, b, b % 15 + 1);
        }
        DUE.is("those that tell one another aren't", x.count(2), 1);
        x.ends(0, 2, 0, 0, 0);
        DUE.is("still not", x.count(2), 1);
        x.ends(0, 2, 0, 0, 15);
        DUE.is("all with c", x.count(2), 16);
        x.ends(0, 2, 0, 15, 0);
        DUE.is("all with b", x.count(2), 16);
        x.ends(15, 0, 0, 0, 0);
        DUE.is("all but what RETURN cuts off", x.count(2), 2);
    }

    private static void reachedFarAway() {
        DUE.of("I: REACHED through all others, against the numbers and along them");
        ValueBench up = Stories.withBlocks(16);
        jumps(up, 0, 1, 2, 3, 4, 5, 6, 7, 8, 9, 10, 11, 12, 13, 14, 15);
        ValueBench down = Stories.withBlocks(16);
        jumps(down, 0, 15, 14, 13, 12, 11, 10, 9, 8, 7, 6, 5, 4, 3, 2, 1);
        for (int b = 0; b < 16; b++) {
            DUE.is("up " + b, up.about(b, 0), 1);
            DUE.is("down " + b, down.about(b, 0), 1);
            DUE.is("PARENT up " + b, up.about(b, 1), b - 1);
            DUE.is("PARENT down " + b, down.about(b, 1), b == 0 ? NONE : b == 15 ? 0 : b + 1);
        }
        up.ends(7, 1, 0, 7, 0);
        DUE.is("cut off behind 7", up.count(2), 8);
        DUE.is("7 still", up.about(7, 0), 1);
        DUE.is("8 no more", up.about(8, 0), 0);
    }

    private static void parentOfTheEntry() {
        DUE.of("I: The PARENT .. (NONE for the ENTRY)");
        ValueBench x = Stories.withBlocks(2);
        DUE.is("alone", x.about(0, 1), NONE);
        x.ends(0, 1, 0, 0, 0);
        DUE.is("going round itself", x.about(0, 1), NONE);
        x.ends(0, 1, 0, 1, 0);
        DUE.is("with one behind it", x.about(0, 1), NONE);
        x.ends(1, 1, 0, 0, 0);
        DUE.is("told by what it dominates", x.about(0, 1), NONE);
        DUE.is("whose PARENT it is", x.about(1, 1), 0);
    }

    private static void parents() {
        DUE.of("6: 1: PARENT, where ways meet and where they go back");
        ValueBench x = Stories.withBlocks(8);
        // 0 to 5; 5 to 1, 2; both to 3; 3 back to 5, or to 4; 4 to itself, or to 7; 6 not reached.
        x.ends(0, 1, 0, 5, 0);
        x.ends(5, 2, 0, 1, 2);
        jumps(x, 1, 3);
        jumps(x, 2, 3);
        x.ends(3, 2, 0, 5, 4);
        x.ends(4, 2, 0, 4, 7);
        x.ends(6, 1, 0, 7, 0);
        int[] due = {NONE, 5, 5, 5, 3, 0, NONE, 4};
        for (int b = 0; b < 8; b++) {
            DUE.is("PARENT of " + b, x.about(b, 1), due[b]);
        }
    }

    /** Each of 16 tells BLOCK 1, and all but the last the next one. */
    private static ValueBench allTellOne(int told) {
        ValueBench x = Stories.withBlocks(16);
        for (int b = 0; b < 16; b++) {
            x.ends(b, 2, 0, told, b == 15 ? told : b + 1);
        }
        return x;
    }

    private static void predecessorCounts() {
        DUE.of("6: 2: PREDECESSORS, from none to 16");
        ValueBench x = allTellOne(1);
        DUE.is("of the ENTRY", x.about(0, 2), 0);
        DUE.is("of 1", x.about(1, 2), 16);
        DUE.is("of 2", x.about(2, 2), 1);
        ValueBench y = allTellOne(0);
        DUE.is("of the ENTRY, told by all", y.about(0, 2), 16);
        DUE.is("of 15", y.about(15, 2), 1);
        y.ends(15, 0, 0, 0, 0);
        DUE.is("of the ENTRY, told by all but one", y.about(0, 2), 15);
    }

    private static void instructionsTold() {
        DUE.of("6: 3: INSTRUCTIONS told, from none to 100");
        for (int b : new int[] {0, 1, 15}) {
            ValueBench x = Stories.withBlocks(16);
            for (int n = 0; n <= 100; n++) {
                DUE.is("told in " + b, x.about(b, 3), n);
                DUE.is("told in another", x.about(b == 15 ? 14 : b + 1, 3), 0);
                x.put(b, n % 15, 0, 0, 0);
            }
            DUE.is("told in " + b + " at last", x.about(b, 3), 100);
        }
    }

    private static void choicesFromNoneToTen() {
        DUE.of("6: 4: CHOICES, from none to ten");
        ValueBench x = Stories.withBlocks(4);
        x.ends(0, 2, 0, 1, 2);
        jumps(x, 1, 3);
        jumps(x, 2, 3);
        for (int v = 0; v <= 9; v++) {
            DUE.is("where ways meet", x.about(3, 4), v);
            x.put(1, 14, v, 0, 0);
            DUE.is("EMIT gives nothing", x.about(3, 4), v);
            x.put(1, v == 0 ? 0 : v == 1 ? 1 : v == 2 ? 2 : v == 3 ? 13 : 3 + v, v, 0, 0);
            DUE.is("CHOICES of an arm", x.about(1, 4), 0);
        }
        DUE.is("of all VARIABLES", x.about(3, 4), 10);
        x.put(2, 0, 9, 0, 0);
        DUE.is("given on both ways", x.about(3, 4), 10);
        DUE.is("of the ENTRY", x.about(0, 4), 0);
        ValueBench y = Stories.withBlocks(1);
        DUE.is("of an ENTRY alone", y.about(0, 4), 0);
        y.ends(0, 1, 0, 0, 0);
        DUE.is("of an ENTRY that is told", y.about(0, 4), 10);
    }

    private static void frontierSizes() {
        DUE.of("6: 5: how many BLOCKS are in its FRONTIER");
        ValueBench x = Stories.withBlocks(16);
        // 1 dominates 3 to 8, which tell 9 to 15; 2 goes to 9, and on to each of these.
        x.ends(0, 2, 0, 1, 2);
        x.ends(1, 2, 0, 3, 4);
        x.ends(3, 2, 0, 5, 6);
        x.ends(4, 2, 0, 7, 8);
        x.ends(5, 2, 0, 10, 11);
        x.ends(6, 2, 0, 12, 13);
        x.ends(7, 2, 0, 14, 15);
        x.ends(8, 1, 0, 9, 0);
        x.ends(2, 1, 0, 9, 0);
        jumps(x, 9, 10, 11, 12, 13, 14, 15);
        int[] due = {0, 7, 1, 4, 3, 2, 2, 2, 1, 1, 1, 1, 1, 1, 1, 0};
        for (int b = 0; b < 16; b++) {
            DUE.is("FRONTIER of " + b, x.about(b, 5), due[b]);
        }
    }

    private static void howAsItCounts() {
        DUE.of("6: 6: how its END is (2 BRANCH ..), as it counts");
        for (int blocks = 2; blocks <= 15; blocks++) {
            ValueBench x = Stories.withBlocks(blocks);
            // The last one is not REACHED, and yet its END is told.
            int last = blocks - 1;
            int[][] ends = {{0, 0, 0, 0}, {1, last, 0, 1}, {1, blocks, 0, 0}, {2, last, last, 2},
                {2, blocks, 0, 0}, {2, 0, blocks, 0}, {2, 15, 15, 0}, {1, 15, 0, 0}};
            for (int[] e : ends) {
                DUE.is("ends", x.ends(last, e[0], 9, e[1], e[2]), true);
                DUE.is("how " + e[0] + " to " + e[1] + " " + e[2] + " of " + blocks,
                        x.about(last, 6), e[3]);
            }
        }
    }

    private static void predecessorNumbers() {
        DUE.of("7: The i-th PREDECESSOR of BLOCK b; NONE");
        ValueBench x = allTellOne(1);
        for (int i : NUMBERS) {
            DUE.is("predecessor 1 " + i, x.predecessor(1, i), in(i, 0, 15) ? i : NONE);
            DUE.is("predecessor 2 " + i, x.predecessor(2, i), i == 0 ? 1 : NONE);
            DUE.is("predecessor 0 " + i, x.predecessor(0, i), NONE);
        }
        for (int b : NUMBERS) {
            DUE.is("predecessor " + b + " 0", x.predecessor(b, 0),
                    b == 1 ? 0 : in(b, 2, 15) ? b - 1 : NONE);
        }
        for (int blocks : SIZES) {
            ValueBench y = Stories.withBlocks(blocks);
            y.ends(0, 1, 0, blocks - 1, 0);
            for (int b : NUMBERS) {
                DUE.is("predecessor " + b + " 0 of " + blocks, y.predecessor(b, 0),
                        blocks > 0 && b == blocks - 1 ? 0 : NONE);
            }
        }
    }

    private static void predecessorsOnce() {
        DUE.of("I: PREDECESSORS .. by numbers, each once");
        ValueBench x = Stories.withBlocks(4);
        x.ends(0, 2, 0, 3, 3);
        DUE.is("how many", x.about(3, 2), 1);
        DUE.is("the first", x.predecessor(3, 0), 0);
        DUE.is("no second", x.predecessor(3, 1), NONE);
        x.ends(3, 2, 0, 3, 3);
        DUE.is("with itself", x.about(3, 2), 2);
        DUE.is("the second", x.predecessor(3, 1), 3);
        // 2 and 1 come between them, told in that order.
        x.ends(3, 2, 0, 3, 2);
        x.ends(2, 2, 0, 3, 1);
        x.ends(1, 1, 0, 3, 0);
        for (int i = 0; i <= 4; i++) {
            DUE.is("by numbers " + i, x.predecessor(3, i), i < 4 ? i : NONE);
        }
    }

    private static void predecessorsReached() {
        DUE.of("I: PREDECESSORS of a BLOCK: the REACHED ones");
        ValueBench x = Stories.withBlocks(4);
        x.ends(0, 1, 0, 2, 0);
        x.ends(1, 1, 0, 2, 0);
        x.ends(3, 2, 0, 2, 3);
        DUE.is("one alone", x.about(2, 2), 1);
        DUE.is("which is the ENTRY", x.predecessor(2, 0), 0);
        DUE.is("no second", x.predecessor(2, 1), NONE);
        DUE.is("of one not REACHED that tells itself", x.predecessor(3, 0), NONE);
        x.ends(0, 2, 0, 2, 3);
        DUE.is("now there are two", x.about(2, 2), 2);
        DUE.is("the second", x.predecessor(2, 1), 3);
        DUE.is("of 3", x.predecessor(3, 1), 3);
    }

    private static void dominatesItself() {
        DUE.of("I: a DOMINATES b .. (each itself)");
        ValueBench x = new ValueBench();
        Stories.full(x);
        for (int a = 0; a < 16; a++) {
            for (int b = 0; b < 16; b++) {
                DUE.is("dominates " + a + " " + b, x.dominates(a, b), a == 0 || a == b ? 1 : 0);
            }
        }
        ValueBench y = Stories.withBlocks(1);
        DUE.is("the ENTRY alone", y.dominates(0, 0), 1);
        y.ends(0, 1, 0, 0, 0);
        DUE.is("the ENTRY in a loop", y.dominates(0, 0), 1);
    }

    private static void dominatesNotReached() {
        DUE.of("8: NONE if one is not REACHED");
        for (int blocks : SIZES) {
            ValueBench x = Stories.withBlocks(blocks);
            for (int b : NUMBERS) {
                int due = blocks > 0 && b == 0 ? 1 : NONE;
                DUE.is("dominates 0 " + b + " of " + blocks, x.dominates(0, b), due);
                DUE.is("dominates " + b + " 0 of " + blocks, x.dominates(b, 0), due);
                DUE.is("dominates " + b + " itself of " + blocks, x.dominates(b, b), due);
            }
        }
    }

    private static void dominatesAllOrNone() {
        DUE.of("8: 1, 0: every way from the ENTRY to b goes through a");
        ValueBench x = Stories.withBlocks(16);
        jumps(x, 0, 15, 1, 14, 2, 13, 3, 12, 4, 11, 5, 10, 6, 9, 7, 8);
        int[] order = {0, 15, 1, 14, 2, 13, 3, 12, 4, 11, 5, 10, 6, 9, 7, 8};
        for (int i = 0; i < 16; i++) {
            for (int k = 0; k < 16; k++) {
                DUE.is("dominates " + order[i] + " " + order[k],
                        x.dominates(order[i], order[k]), i <= k ? 1 : 0);
            }
        }
        // One way past all of them but the ENTRY is enough.
        x.ends(0, 2, 0, 15, 8);
        for (int i = 1; i < 15; i++) {
            DUE.is("8 can do without " + order[i], x.dominates(order[i], 8), 0);
            DUE.is("7 can not do without " + order[i], x.dominates(order[i], 7), 1);
        }
    }

    private static void meetsItself() {
        DUE.of("I: b is in the FRONTIER of a if a dominates a PREDECESSOR of b, but is b");
        ValueBench x = Stories.withBlocks(3);
        jumps(x, 0, 1);
        DUE.is("without a way back", x.meets(1, 1), 0);
        x.ends(1, 2, 0, 1, 2);
        DUE.is("going round itself", x.meets(1, 1), 1);
        DUE.is("the ENTRY doesn't meet it", x.meets(0, 1), 0);
        x.ends(1, 1, 0, 2, 0);
        x.ends(2, 1, 0, 1, 0);
        DUE.is("with a longer way back", x.meets(1, 1), 1);
        DUE.is("from 2", x.meets(2, 1), 1);
        DUE.is("2 itself isn't where they meet", x.meets(2, 2), 0);
        DUE.is("nor the ENTRY", x.meets(0, 0), 0);
        x.ends(2, 1, 0, 0, 0);
        DUE.is("the ENTRY meets itself", x.meets(0, 0), 1);
        DUE.is("1 meets the ENTRY", x.meets(1, 0), 1);
        DUE.is("2 meets the ENTRY", x.meets(2, 0), 1);
        DUE.is("1 meets itself no more", x.meets(1, 1), 0);
    }

    private static void meetsNotReached() {
        DUE.of("9: NONE likewise");
        for (int blocks : SIZES) {
            ValueBench x = Stories.withBlocks(blocks);
            x.ends(0, 1, 0, 0, 0);
            x.ends(1, 1, 0, 0, 0);
            for (int b : NUMBERS) {
                int due = blocks > 0 && b == 0 ? 1 : NONE;
                DUE.is("meets 0 " + b + " of " + blocks, x.meets(0, b), due);
                DUE.is("meets " + b + " 0 of " + blocks, x.meets(b, 0), due);
                DUE.is("meets " + b + " itself of " + blocks, x.meets(b, b), due);
            }
        }
    }

    private static void meetsOfDominators() {
        DUE.of("I: .. or doesn't dominate b");
        ValueBench x = Stories.withBlocks(16);
        jumps(x, 0, 1, 2, 3, 4, 5, 6, 7, 8, 9, 10, 11, 12, 13, 14, 15);
        for (int back = 0; back < 16; back++) {
            x.ends(15, 1, 0, back, 0);
            for (int a = 0; a < 16; a++) {
                DUE.is("meets " + a + " " + back, x.meets(a, back), a >= back ? 1 : 0);
            }
            DUE.is("nothing else is met", x.about(15, 5), 1);
        }
    }
}
