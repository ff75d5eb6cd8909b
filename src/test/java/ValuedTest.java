/** Promises 10, 11, 14 and 15: value, operand, read, emits, as VALUED has them. */
public final class ValuedTest {
    private static final Due DUE = new Due("ValuedTest");
    private static final int NONE = ValueBench.NONE;

    public static void main(String[] args) {
        countdown();
        entryLoop();
        copies();
        notReached();
        constOfMinusOne();
        wrongArguments();
        DUE.end();
    }

    private static void valueIs(ValueBench x, int v, int kind, int block, int variable,
            int number, int... operands) {
        DUE.is("kind of " + v, x.value(v, 0), kind);
        DUE.is("BLOCK of " + v, x.value(v, 1), block);
        DUE.is("VARIABLE of " + v, x.value(v, 2), variable);
        DUE.is("CLASS of " + v, x.value(v, 3), x.classOf(v));
        DUE.is("OPERANDS of " + v, x.value(v, 5), operands.length);
        DUE.is("number of " + v, x.value(v, 6), number);
        for (int i = 0; i < operands.length; i++) {
            DUE.is("operand " + v + " " + i, x.operand(v, i), operands[i]);
        }
        DUE.is("operand behind of " + v, x.operand(v, operands.length), NONE);
        DUE.is("operand -1 of " + v, x.operand(v, -1), NONE);
    }

    private static void countdown() {
        ValueBench x = new ValueBench();
        for (int b = 0; b < 4; b++) {
            x.block();
        }
        x.put(0, 0, 0, 10, 0);
        x.put(0, 1, 1, 2, 0);
        x.ends(0, 1, 0, 1, 0);
        x.ends(1, 2, 0, 2, 3);
        x.put(2, 14, 1, 0, 0);
        x.put(2, 0, 2, 1, 0);
        x.put(2, 4, 0, 0, 2);
        x.put(2, 3, 1, 1, 2);
        x.put(2, 14, 1, 0, 0);
        x.ends(2, 1, 0, 1, 0);
        x.put(3, 2, 3, 1, 0);
        x.ends(3, 0, 3, 0, 0);

        DUE.is("VALUES", x.count(3), 9);
        DUE.is("CHOICES", x.count(6), 3);
        valueIs(x, 0, 0, 0, NONE, 0);
        valueIs(x, 1, 0, 0, 0, 10);
        valueIs(x, 2, 1, 0, 1, 2);
        valueIs(x, 3, 15, 1, 0, NONE, 1, 7);
        valueIs(x, 4, 15, 1, 1, NONE, 2, 8);
        valueIs(x, 5, 15, 1, 2, NONE, 0, 6);
        valueIs(x, 6, 0, 2, 2, 1);
        valueIs(x, 7, 4, 2, 0, NONE, 3, 6);
        valueIs(x, 8, 3, 2, 1, NONE, 4, 6);

        DUE.is("read 0", x.read(0, false), NONE);
        DUE.is("read 1", x.read(1, false), 3);
        DUE.is("read 2", x.read(2, false), NONE);
        DUE.is("read 3", x.read(3, false), 4);
        DUE.is("read 4", x.read(4, false), NONE);
        DUE.is("emits 2 0", x.emits(2, 0, false), 4);
        DUE.is("emits 2 1", x.emits(2, 1, false), 8);
        DUE.is("emits 2 2", x.emits(2, 2, false), NONE);
        DUE.is("emits 2 -1", x.emits(2, -1, false), NONE);
        DUE.is("emits 0 0", x.emits(0, 0, false), NONE);
        DUE.is("emits 4 0", x.emits(4, 0, false), NONE);
    }

    private static void entryLoop() {
        ValueBench x = new ValueBench();
        x.block();
        x.block();
        x.put(0, 0, 1, 1, 0);
        x.put(0, 3, 0, 0, 1);
        x.put(0, 1, 2, 0, 0);
        x.put(0, 10, 3, 0, 2);
        x.ends(0, 2, 3, 0, 1);
        x.ends(1, 0, 0, 0, 0);
        DUE.is("VALUES", x.count(3), 15);
        int[] atEnd = {12, 11, 13, 14, 5, 6, 7, 8, 9, 10};
        valueIs(x, 0, 0, 0, NONE, 0);
        for (int v = 0; v < 10; v++) {
            valueIs(x, 1 + v, 15, 0, v, NONE, atEnd[v], 0);
        }
        valueIs(x, 11, 0, 0, 1, 1);
        valueIs(x, 12, 3, 0, 0, NONE, 1, 11);
        valueIs(x, 13, 1, 0, 2, 0);
        valueIs(x, 14, 10, 0, 3, NONE, 12, 13);
        DUE.is("read 0", x.read(0, false), 14);
        DUE.is("read 1", x.read(1, false), 12);
    }

    private static void copies() {
        ValueBench x = new ValueBench();
        x.block();
        x.put(0, 1, 0, 0, 0);
        x.put(0, 2, 1, 0, 0);
        x.put(0, 0, 0, 4, 0);
        x.put(0, 4, 2, 1, 0);
        x.put(0, 2, 1, 9, 0);
        x.put(0, 14, 1, 0, 0);
        x.put(0, 4, 2, 2, 2);
        x.ends(0, 0, 2, 0, 0);
        DUE.is("VALUES", x.count(3), 5);
        valueIs(x, 3, 4, 0, 2, NONE, 1, 2);
        valueIs(x, 4, 4, 0, 2, NONE, 3, 3);
        DUE.is("COPY of what is 0", x.emits(0, 0, false), 0);
        DUE.is("returns", x.read(0, false), 4);
    }

    private static void notReached() {
        ValueBench x = new ValueBench();
        x.block();
        x.block();
        x.put(1, 0, 0, 4, 0);
        x.put(1, 14, 0, 0, 0);
        x.put(0, 0, 0, 5, 0);
        DUE.is("VALUES", x.count(3), 2);
        valueIs(x, 1, 0, 0, 0, 5);
        DUE.is("read 1", x.read(1, false), NONE);
        DUE.is("emits 1 0", x.emits(1, 0, false), NONE);
        x.ends(0, 1, 0, 1, 0);
        DUE.is("VALUES", x.count(3), 3);
        valueIs(x, 2, 0, 1, 0, 4);
        DUE.is("read 1", x.read(1, false), 2);
        DUE.is("emits 1 0", x.emits(1, 0, false), 2);
    }

    private static void constOfMinusOne() {
        ValueBench x = new ValueBench();
        x.block();
        x.put(0, 0, 9, -1, 0);
        x.put(0, 0, 9, Integer.MIN_VALUE, 0);
        valueIs(x, 1, 0, 0, 9, -1);
        valueIs(x, 2, 0, 0, 9, Integer.MIN_VALUE);
    }

    private static void wrongArguments() {
        ValueBench x = new ValueBench();
        x.block();
        x.put(0, 0, 0, 3, 0);
        int[] off = {-1, 2, 260, 261, 1000, Integer.MIN_VALUE, Integer.MAX_VALUE};
        for (int v : off) {
            for (int what = 0; what <= 6; what++) {
                DUE.is("value " + v + " " + what, x.value(v, what), NONE);
            }
            DUE.is("operand of " + v, x.operand(v, 0), NONE);
            DUE.is("classOf " + v, x.classOf(v), NONE);
            DUE.is("led of " + v, x.led(v, 0), NONE);
            DUE.is("operand " + v + " of 1", x.operand(1, v), NONE);
            DUE.is("read " + v, x.read(v, false), NONE);
            DUE.is("read in LED " + v, x.read(v, true), NONE);
            DUE.is("emits of " + v, x.emits(v, 0, false), NONE);
            DUE.is("emits " + v + " of 0", x.emits(0, v, true), NONE);
        }
        DUE.is("what 7", x.value(1, 7), NONE);
        DUE.is("what -1", x.value(1, -1), NONE);
    }
}
