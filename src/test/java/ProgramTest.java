/** Promises 1 to 5: a new object, block, put, ends, clear. */
public final class ProgramTest {
    private static final Due DUE = new Due("ProgramTest");
    private static final int NONE = ValueBench.NONE;

    public static void main(String[] args) {
        DUE.is("NONE", NONE, -1);
        newObject();
        blocks();
        putAnswers();
        putRefuses();
        putIsFull();
        putGoesToTheEndOfItsBlock();
        endsAnswers();
        endsRefuses();
        endsOfMissingBlocks();
        clearing();
        DUE.end();
    }

    /** Without BLOCKS there is no ENTRY, so no ZERO: nothing is counted, and no VALUE answers. */
    private static void nothingIsThere(ValueBench x) {
        for (int what = 0; what <= 6; what++) {
            DUE.is("count " + what + " of nothing", x.count(what), 0);
        }
        DUE.is("count 7 of nothing", x.count(7), NONE);
        for (int v = -1; v <= 2; v++) {
            for (int what = -1; what <= 7; what++) {
                DUE.is("value " + v + ", " + what + " of nothing", x.value(v, what), NONE);
            }
            DUE.is("classOf " + v + " of nothing", x.classOf(v), NONE);
            DUE.is("operand of nothing", x.operand(v, 0), NONE);
            DUE.is("led of nothing", x.led(v, 0), NONE);
        }
        for (int led = 0; led <= 1; led++) {
            DUE.is("read of nothing", x.read(0, led == 1), NONE);
            DUE.is("emits of nothing", x.emits(0, 0, led == 1), NONE);
        }
        for (int what = 0; what <= 6; what++) {
            DUE.is("about " + what + " of nothing", x.about(0, what), NONE);
        }
        DUE.is("predecessor of nothing", x.predecessor(0, 0), NONE);
        DUE.is("dominates of nothing", x.dominates(0, 0), NONE);
        DUE.is("meets of nothing", x.meets(0, 0), NONE);
        for (int form = 0; form <= 2; form++) {
            DUE.is("run " + form + " of nothing", x.run(form, 1, 2, 3, 4), NONE);
        }
        DUE.is("put of nothing", x.put(0, 0, 0, 0, 0), NONE);
        DUE.is("ends of nothing", x.ends(0, 0, 0, 0, 0), false);
    }

    /** The first BLOCK is the ENTRY, and brings ZERO alone. */
    private static void zeroComesWithTheEntry(ValueBench x) {
        DUE.is("the ENTRY", x.block(), 0);
        DUE.is("VALUES with the ENTRY", x.count(3), 1);
        DUE.is("CLASSES with the ENTRY", x.count(4), 1);
        DUE.is("REDUNDANT with the ENTRY", x.count(5), 0);
        int[] due = {0, 0, NONE, 0, 0, 0, 0};
        for (int what = 0; what <= 6; what++) {
            DUE.is("ZERO, " + what, x.value(0, what), due[what]);
        }
        DUE.is("its CLASS", x.classOf(0), 0);
        DUE.is("RETURN reads it", x.read(0, true), 0);
    }

    private static void newObject() {
        ValueBench x = new ValueBench();
        nothingIsThere(x);
        for (int what = -1; what <= 4; what++) {
            DUE.is("new ran " + what, x.ran(what), 0);
        }
        DUE.is("new emitted", x.emitted(0), 0);
        DUE.is("new clear", x.clear(), 0);
        DUE.is("new fuel", x.fuel(7), 1000);
        zeroComesWithTheEntry(x);
    }

    private static void blocks() {
        ValueBench x = new ValueBench();
        for (int b = 0; b < 16; b++) {
            DUE.is("block " + b, x.block(), b);
            DUE.is("how a new one ends", x.about(b, 6), 0);
            DUE.is("INSTRUCTIONS of a new one", x.about(b, 3), 0);
            DUE.is("reached", x.about(b, 0), b == 0 ? 1 : 0);
        }
        DUE.is("a 17th block", x.block(), NONE);
        DUE.is("a 17th block again", x.block(), NONE);
        DUE.is("blocks", x.count(0), 16);
        DUE.is("returns VARIABLE 0", x.read(0, false), 0);
    }

    private static void putAnswers() {
        ValueBench x = new ValueBench();
        x.block();
        x.block();
        int all = 0;
        for (int kind = 0; kind <= 14; kind++) {
            DUE.is("put of kind " + kind, x.put(kind % 2, kind, 9, 3, 9), ++all);
        }
        DUE.is("told", x.count(1), 15);
        DUE.is("told in 0", x.about(0, 3), 8);
        DUE.is("told in 1, not reached", x.about(1, 3), 7);
    }

    private static void putRefuses() {
        ValueBench x = new ValueBench();
        x.block();
        DUE.is("no such block", x.put(1, 0, 0, 0, 0), NONE);
        DUE.is("block -1", x.put(-1, 0, 0, 0, 0), NONE);
        DUE.is("the greatest block", x.put(Integer.MAX_VALUE, 0, 0, 0, 0), NONE);
        DUE.is("kind 15", x.put(0, 15, 0, 0, 0), NONE);
        DUE.is("kind -1", x.put(0, -1, 0, 0, 0), NONE);
        int[] off = {-1, 10, Integer.MIN_VALUE, Integer.MAX_VALUE};
        for (int bad : off) {
            for (int kind = 0; kind <= 14; kind++) {
                DUE.is("a " + bad + " of " + kind, x.put(0, kind, bad, 0, 0), NONE);
            }
            DUE.is("INPUT " + bad, x.put(0, 1, 0, bad, 0), NONE);
            for (int kind = 2; kind <= 13; kind++) {
                DUE.is("b " + bad + " of " + kind, x.put(0, kind, 0, bad, 0), NONE);
            }
            for (int kind = 3; kind <= 13; kind++) {
                DUE.is("c " + bad + " of " + kind, x.put(0, kind, 0, 0, bad), NONE);
            }
        }
        DUE.is("INPUT 4", x.put(0, 1, 0, 4, 0), NONE);
        DUE.is("none came", x.count(1), 0);
        DUE.is("CONST takes any n", x.put(0, 0, 0, Integer.MIN_VALUE, -7), 1);
        DUE.is("INPUT has no c", x.put(0, 1, 0, 3, 99), 2);
        DUE.is("COPY has no c", x.put(0, 2, 0, 9, -99), 3);
        DUE.is("EMIT has no b, c", x.put(0, 14, 9, -1, 10), 4);
    }

    private static void putIsFull() {
        ValueBench x = new ValueBench();
        x.block();
        x.block();
        for (int i = 1; i <= 100; i++) {
            DUE.is("put " + i, x.put(i % 2, 0, i % 10, i, 0), i);
        }
        DUE.is("put 101", x.put(0, 0, 0, 0, 0), NONE);
        DUE.is("put 101 elsewhere", x.put(1, 14, 0, 0, 0), NONE);
        DUE.is("told", x.count(1), 100);
        DUE.is("of block 1", x.about(1, 3), 50);
    }

    private static void putGoesToTheEndOfItsBlock() {
        ValueBench x = new ValueBench();
        x.block();
        x.block();
        x.put(1, 0, 1, 11, 0);
        x.put(0, 0, 0, 7, 0);
        x.put(1, 0, 2, 12, 0);
        x.put(0, 14, 0, 0, 0);
        x.put(1, 14, 1, 0, 0);
        x.put(1, 14, 2, 0, 0);
        x.ends(0, 1, 0, 1, 0);
        x.ends(1, 0, 2, 0, 0);
        int[] due = {7, 11, 12};
        for (int form = 0; form <= 2; form++) {
            DUE.is("run " + form, x.run(form, 0, 0, 0, 0), 0);
            DUE.is("returned", x.ran(0), 12);
            for (int i = 0; i < due.length; i++) {
                DUE.is("emitted " + i, x.emitted(i), due[i]);
            }
        }
        DUE.is("n of the first", x.value(1, 6), 7);
        DUE.is("n of the second", x.value(2, 6), 11);
        DUE.is("n of the third", x.value(3, 6), 12);
    }

    private static void endsAnswers() {
        ValueBench x = new ValueBench();
        x.block();
        x.block();
        DUE.is("RETURN", x.ends(0, 0, 9, -1, 16), true);
        DUE.is("how", x.about(0, 6), 0);
        DUE.is("JUMP", x.ends(0, 1, -1, 1, 16), true);
        DUE.is("how", x.about(0, 6), 1);
        DUE.is("reached", x.about(1, 0), 1);
        DUE.is("BRANCH", x.ends(0, 2, 9, 1, 0), true);
        DUE.is("how", x.about(0, 6), 2);
        DUE.is("RETURN again", x.ends(0, 0, 0, 0, 0), true);
        DUE.is("how", x.about(0, 6), 0);
        DUE.is("no more reached", x.about(1, 0), 0);
    }

    private static void endsRefuses() {
        ValueBench x = new ValueBench();
        x.block();
        x.block();
        x.ends(0, 2, 3, 1, 0);
        DUE.is("no such block", x.ends(2, 0, 0, 0, 0), false);
        DUE.is("block -1", x.ends(-1, 0, 0, 0, 0), false);
        DUE.is("how 3", x.ends(0, 3, 0, 0, 0), false);
        DUE.is("how -1", x.ends(0, -1, 0, 0, 0), false);
        int[] off = {-1, 16, Integer.MIN_VALUE, Integer.MAX_VALUE};
        for (int bad : off) {
            DUE.is("RETURN of " + bad, x.ends(0, 0, bad, 0, 0), false);
            DUE.is("BRANCH of " + bad, x.ends(0, 2, bad, 0, 0), false);
            DUE.is("JUMP to " + bad, x.ends(0, 1, 0, bad, 0), false);
            DUE.is("BRANCH to " + bad, x.ends(0, 2, 0, bad, 0), false);
            DUE.is("BRANCH else to " + bad, x.ends(0, 2, 0, 0, bad), false);
        }
        DUE.is("RETURN of 10", x.ends(0, 0, 10, 0, 0), false);
        DUE.is("BRANCH of 10", x.ends(0, 2, 10, 0, 0), false);
        DUE.is("nothing changed", x.about(0, 6), 2);
        DUE.is("nor where to", x.about(1, 0), 1);
        DUE.is("nor the other", x.predecessor(0, 0), 0);
    }

    private static void endsOfMissingBlocks() {
        ValueBench x = new ValueBench();
        x.block();
        x.put(0, 0, 0, 5, 0);
        x.put(0, 0, 1, 6, 0);
        x.ends(0, 2, 1, 0, 2);
        DUE.is("one missing: how", x.about(0, 6), 0);
        DUE.is("reads VARIABLE 0", x.read(0, false), 1);
        DUE.is("no way back", x.about(0, 2), 0);
        for (int form = 0; form <= 2; form++) {
            DUE.is("runs to RETURN", x.run(form, 0, 0, 0, 0), 0);
            DUE.is("of VARIABLE 0", x.ran(0), 5);
        }
        x.block();
        DUE.is("still missing", x.about(0, 6), 0);
        x.block();
        DUE.is("now it is there", x.about(0, 6), 2);
        DUE.is("and reached", x.about(2, 0), 1);
        DUE.is("with a way back", x.predecessor(0, 0), 0);
        x.ends(2, 1, 0, 15, 0);
        DUE.is("JUMP to a missing one", x.about(2, 6), 0);
        // Behind ZERO and the ENTRY's ten CHOICES.
        DUE.is("reads VARIABLE 0 there", x.read(2, false), 11);
        x.ends(1, 1, 0, 15, 0);
        DUE.is("of one not reached", x.about(1, 6), 0);
    }

    private static void clearing() {
        ValueBench x = new ValueBench();
        x.block();
        x.block();
        x.put(0, 0, 4, 9, 0);
        x.put(0, 14, 4, 0, 0);
        x.ends(0, 1, 0, 1, 0);
        x.ends(1, 0, 4, 0, 0);
        x.fuel(77);
        x.run(0, 0, 0, 0, 0);
        DUE.is("clear", x.clear(), 2);
        DUE.is("clear again", x.clear(), 0);
        nothingIsThere(x);
        DUE.is("the latest run stays", x.ran(0), 9);
        DUE.is("what it emitted stays", x.emitted(0), 9);
        DUE.is("block", x.block(), 0);
        DUE.is("block", x.block(), 1);
        DUE.is("ends anew", x.about(0, 6), 0);
        DUE.is("without INSTRUCTIONS", x.about(0, 3), 0);
        DUE.is("put", x.put(1, 0, 0, 3, 0), 1);
        DUE.is("RETURN of VARIABLE 0", x.run(0, 0, 0, 0, 0), 0);
        DUE.is("which is 0", x.ran(0), 0);
        DUE.is("of block 0", x.ran(3), 0);
        DUE.is("FUEL stays", x.fuel(1), 77);
        x.clear();
        zeroComesWithTheEntry(x);
        for (int b = 1; b < 16; b++) {
            DUE.is("block after clear", x.block(), b);
        }
    }
}
