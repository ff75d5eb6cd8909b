/** Promises 6 to 9: about, predecessor, dominates, meets. */
public final class GraphTest {
    private static final Due DUE = new Due("GraphTest");
    private static final int NONE = ValueBench.NONE;

    public static void main(String[] args) {
        ValueBench x = meetingWays();
        aboutBlocks(x);
        predecessors(x);
        dominating(x);
        meeting(x);
        loopToTheEntry();
        bothWaysTheSame();
        longChain();
        nestedLoops();
        DUE.end();
    }

    /** 0 to 1, 2; 1 to 3; 2 to 3; 3 to 2, 4; and 5, which is not reached, to 3. */
    private static ValueBench meetingWays() {
        ValueBench x = new ValueBench();
        for (int b = 0; b < 6; b++) {
            x.block();
        }
        x.ends(0, 2, 0, 1, 2);
        x.ends(1, 1, 0, 3, 0);
        x.ends(2, 1, 0, 3, 0);
        x.ends(3, 2, 0, 2, 4);
        x.ends(5, 1, 0, 3, 0);
        x.put(1, 0, 7, 1, 0);
        x.put(5, 0, 8, 1, 0);
        x.put(5, 14, 8, 0, 0);
        return x;
    }

    private static void aboutBlocks(ValueBench x) {
        int[][] due = {
            {1, 1, 1, 1, 1, 0},
            {NONE, 0, 0, 0, 3, NONE},
            {0, 1, 2, 2, 1, NONE},
            {0, 1, 0, 0, 0, 2},
            // VARIABLE 7 is given in 1, whose FRONTIER is 3, whose FRONTIER is 2, whose is 3.
            {0, 0, 1, 1, 0, NONE},
            {0, 1, 1, 1, 0, NONE},
            {2, 1, 1, 2, 0, 1},
        };
        for (int what = 0; what <= 6; what++) {
            for (int b = 0; b < 6; b++) {
                DUE.is("about " + b + " " + what, x.about(b, what), due[what][b]);
            }
            DUE.is("about 6 " + what, x.about(6, what), NONE);
            DUE.is("about -1 " + what, x.about(-1, what), NONE);
            DUE.is("about the least " + what, x.about(Integer.MIN_VALUE, what), NONE);
            DUE.is("about 32 " + what, x.about(32, what), NONE);
        }
        DUE.is("what 7", x.about(0, 7), NONE);
        DUE.is("what -1", x.about(0, -1), NONE);
        DUE.is("what 7 of one not reached", x.about(5, 7), NONE);
    }

    private static void predecessors(ValueBench x) {
        int[][] due = {{}, {0}, {0, 3}, {1, 2}, {3}, {}, {}};
        for (int b = 0; b < due.length; b++) {
            for (int i = 0; i < due[b].length; i++) {
                DUE.is("predecessor " + b + " " + i, x.predecessor(b, i), due[b][i]);
            }
            DUE.is("one behind, of " + b, x.predecessor(b, due[b].length), NONE);
            DUE.is("-1 of " + b, x.predecessor(b, -1), NONE);
            DUE.is("least of " + b, x.predecessor(b, Integer.MIN_VALUE), NONE);
        }
        DUE.is("of block -1", x.predecessor(-1, 0), NONE);
        DUE.is("of block 16", x.predecessor(16, 0), NONE);
        DUE.is("of block 33", x.predecessor(33, 0), NONE);
    }

    private static void dominating(ValueBench x) {
        int[][] due = {
            {1, 1, 1, 1, 1},
            {0, 1, 0, 0, 0},
            {0, 0, 1, 0, 0},
            {0, 0, 0, 1, 1},
            {0, 0, 0, 0, 1},
        };
        for (int a = 0; a < 5; a++) {
            for (int b = 0; b < 5; b++) {
                DUE.is("dominates " + a + " " + b, x.dominates(a, b), due[a][b]);
            }
        }
        int[] off = {5, 6, 15, 16, 32, -1, Integer.MAX_VALUE, Integer.MIN_VALUE};
        for (int bad : off) {
            DUE.is("dominates 0 " + bad, x.dominates(0, bad), NONE);
            DUE.is("dominates " + bad + " 0", x.dominates(bad, 0), NONE);
            DUE.is("dominates itself " + bad, x.dominates(bad, bad), NONE);
        }
    }

    private static void meeting(ValueBench x) {
        int[][] due = {
            {0, 0, 0, 0, 0},
            {0, 0, 0, 1, 0},
            {0, 0, 0, 1, 0},
            {0, 0, 1, 0, 0},
            {0, 0, 0, 0, 0},
        };
        for (int a = 0; a < 5; a++) {
            for (int b = 0; b < 5; b++) {
                DUE.is("meets " + a + " " + b, x.meets(a, b), due[a][b]);
            }
        }
        int[] off = {5, 6, 15, 16, 32, -1, Integer.MAX_VALUE, Integer.MIN_VALUE};
        for (int bad : off) {
            DUE.is("meets 1 " + bad, x.meets(1, bad), NONE);
            DUE.is("meets " + bad + " 3", x.meets(bad, 3), NONE);
        }
    }

    private static void loopToTheEntry() {
        ValueBench x = new ValueBench();
        x.block();
        x.block();
        x.ends(0, 1, 0, 1, 0);
        x.ends(1, 1, 0, 0, 0);
        DUE.is("PARENT of the ENTRY", x.about(0, 1), NONE);
        DUE.is("PREDECESSORS of the ENTRY", x.about(0, 2), 1);
        DUE.is("which is 1", x.predecessor(0, 0), 1);
        DUE.is("the ENTRY meets itself", x.meets(0, 0), 1);
        DUE.is("1 meets the ENTRY", x.meets(1, 0), 1);
        DUE.is("the ENTRY doesn't meet 1", x.meets(0, 1), 0);
        DUE.is("nor does 1 meet itself", x.meets(1, 1), 0);
        DUE.is("CHOICES of the ENTRY", x.about(0, 4), 10);
        DUE.is("CHOICES of 1", x.about(1, 4), 0);
        DUE.is("FRONTIER of the ENTRY", x.about(0, 5), 1);
    }

    private static void bothWaysTheSame() {
        ValueBench x = new ValueBench();
        x.block();
        x.block();
        x.put(0, 0, 1, 1, 0);
        x.ends(0, 2, 1, 1, 1);
        DUE.is("still a BRANCH", x.about(0, 6), 2);
        DUE.is("one PREDECESSOR", x.about(1, 2), 1);
        DUE.is("once", x.predecessor(1, 1), NONE);
        DUE.is("no CHOICES", x.about(1, 4), 0);
        DUE.is("reads", x.read(0, false), 1);
    }

    private static void longChain() {
        ValueBench x = new ValueBench();
        for (int b = 0; b < 16; b++) {
            x.block();
        }
        // 0, 15, 14, .. 1, against the numbers.
        x.ends(0, 1, 0, 15, 0);
        for (int b = 15; b > 1; b--) {
            x.ends(b, 1, 0, b - 1, 0);
        }
        DUE.is("reached", x.count(2), 16);
        for (int b = 1; b < 16; b++) {
            DUE.is("PARENT of " + b, x.about(b, 1), b == 15 ? 0 : b + 1);
            DUE.is("15 dominates " + b, x.dominates(15, b), 1);
            DUE.is("1 dominates " + b, x.dominates(1, b), b == 1 ? 1 : 0);
        }
    }

    private static void nestedLoops() {
        ValueBench x = new ValueBench();
        for (int b = 0; b < 5; b++) {
            x.block();
        }
        // 1 and 2 begin loops; 3 goes back to 2, or on to 4, which goes back to 1.
        x.ends(0, 1, 0, 1, 0);
        x.ends(1, 1, 0, 2, 0);
        x.ends(2, 1, 0, 3, 0);
        x.ends(3, 2, 0, 2, 4);
        x.ends(4, 1, 0, 1, 0);
        DUE.is("1 meets itself", x.meets(1, 1), 1);
        DUE.is("2 meets itself", x.meets(2, 2), 1);
        DUE.is("2 meets 1", x.meets(2, 1), 1);
        DUE.is("1 doesn't meet 2", x.meets(1, 2), 0);
        DUE.is("3 meets 1", x.meets(3, 1), 1);
        DUE.is("3 meets 2", x.meets(3, 2), 1);
        DUE.is("4 meets 1 alone", x.about(4, 5), 1);
        DUE.is("PARENT of 4", x.about(4, 1), 3);
        x.put(3, 0, 6, 1, 0);
        DUE.is("CHOICES of 1", x.about(1, 4), 1);
        DUE.is("CHOICES of 2", x.about(2, 4), 1);
        DUE.is("CHOICES of 4", x.about(4, 4), 0);
        // EMIT gives nothing, but COPY does.
        x.put(4, 14, 5, 0, 0);
        DUE.is("CHOICES of 1 still", x.about(1, 4), 1);
        x.put(4, 2, 5, 5, 0);
        DUE.is("CHOICES of 1 with COPY", x.about(1, 4), 2);
    }
}
