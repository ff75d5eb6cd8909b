import java.util.ArrayList;
import java.util.List;

/**
 * All promises: calls drawn by a fixed rule are answered by the bench and by PlainBench alike.
 * No object is used for more than 512 calls.
 */
public final class AgainstPlainTest {
    private static final Due DUE = new Due("AgainstPlainTest");
    private static final int MOST_CALLS = 512;
    private static final int[] EDGES = {-1, 0, 1, 2, 31, 32, 33, -31, Integer.MIN_VALUE,
        Integer.MAX_VALUE, 7, -7};

    private static Draws draws;
    // Few VARIABLES and kinds make much that stands together; many make much that does not.
    private static int variables;
    private static int kinds;
    private static int reach;

    private static ValueBench bench;
    private static PlainBench plain;
    private static int calls;
    // The calls that told the program, so that a new object can be told it.
    private static final List<int[]> TOLD = new ArrayList<>();

    public static void main(String[] args) {
        for (int n = 1; n <= 400; n++) {
            begin(n);
            mixedCalls();
        }
        for (int n = 1; n <= 200; n++) {
            begin(1000 + n);
            wholeProgram();
        }
        DUE.end();
    }

    private static void begin(int n) {
        draws = new Draws(n);
        variables = 2 + any(9);
        kinds = 1 + any(11);
        reach = 1 + any(16);
        bench = new ValueBench();
        plain = new PlainBench();
        calls = 0;
        TOLD.clear();
    }

    private static int any(int bound) {
        return draws.any(bound);
    }

    /** A number of 0 to bound - 1, or, seldom, one that is off. */
    private static int orOff(int bound) {
        int off = any(60);
        return off == 0 ? -1 : off == 1 ? bound : off == 2 ? EDGES[any(EDGES.length)] : any(bound);
    }

    private static int number() {
        return any(3) == 0 ? EDGES[any(EDGES.length)] : any(4);
    }

    /** The bench for one call more: a new one, told the same, if this one is used up. */
    private static ValueBench x() {
        if (calls == MOST_CALLS) {
            bench = new ValueBench();
            calls = TOLD.size();
            for (int[] t : TOLD) {
                if (t.length == 0) {
                    bench.block();
                } else if (t[5] == 0) {
                    bench.put(t[0], t[1], t[2], t[3], t[4]);
                } else {
                    bench.ends(t[0], t[1], t[2], t[3], t[4]);
                }
            }
        }
        calls++;
        return bench;
    }

    private static void mixedCalls() {
        while (calls < MOST_CALLS - 30) {
            int draw = any(100);
            if (draw < 8) {
                DUE.is("block", x().block(), plain.block());
            } else if (draw < 50) {
                putBoth();
            } else if (draw < 60) {
                endBoth(orOff(Math.max(1, plain.count(0))));
            } else if (draw == 60) {
                DUE.is("clear", x().clear(), plain.clear());
            } else if (draw < 63) {
                int f = any(3) == 0 ? orOff(5001) : 1 + any(60);
                DUE.is("fuel " + f, x().fuel(f), plain.fuel(f));
            } else if (draw < 66) {
                runBoth(orOff(3));
            } else {
                askBoth();
            }
        }
    }

    private static void blockBoth() {
        TOLD.add(new int[0]);
        DUE.is("block", x().block(), plain.block());
    }

    private static void putBoth() {
        int block = orOff(Math.max(1, Math.min(reach, plain.count(0))));
        int pick = any(20);
        int kind = pick < 3 ? 0 : pick < 5 ? 1 : pick < 7 ? 2 : pick < 9 ? 14
                : pick == 9 ? orOff(15) : 3 + any(kinds);
        int a = orOff(variables);
        int b = kind == 0 ? number() : kind == 1 ? orOff(4) : orOff(variables);
        int c = orOff(variables);
        DUE.is("put " + block + " " + kind + " " + a + " " + b + " " + c,
                x().put(block, kind, a, b, c), plain.put(block, kind, a, b, c));
        TOLD.add(new int[] {block, kind, a, b, c, 0});
    }

    private static void endBoth(int block) {
        int how = any(3) == 0 ? orOff(3) : 2;
        int v = orOff(variables);
        // Most BLOCKS go on to the next one, so that many are reached.
        int b = any(3) == 0 ? orOff(reach) : block + 1;
        int c = any(8) == 0 ? b : orOff(reach);
        DUE.is("ends " + block + " " + how + " " + v + " " + b + " " + c,
                x().ends(block, how, v, b, c), plain.ends(block, how, v, b, c));
        TOLD.add(new int[] {block, how, v, b, c, 1});
    }

    private static void runBoth(int form) {
        int a = number();
        int b = number();
        int c = any(100);
        int d = -any(100);
        DUE.is("run " + form, x().run(form, a, b, c, d), plain.run(form, a, b, c, d));
        for (int what = -1; what <= 4; what++) {
            DUE.is("ran " + what, x().ran(what), plain.ran(what));
        }
        for (int i = -1; i <= 3; i++) {
            DUE.is("emitted " + i, x().emitted(i), plain.emitted(i));
        }
        DUE.is("emitted 59", x().emitted(59), plain.emitted(59));
        DUE.is("emitted 60", x().emitted(60), plain.emitted(60));
    }

    private static void askBoth() {
        int b = orOff(Math.max(1, plain.count(0)));
        int a = orOff(Math.max(1, plain.count(0)));
        int v = orOff(Math.max(1, plain.count(3)));
        int what = orOff(7);
        int i = orOff(3);
        boolean led = any(2) == 0;
        switch (any(11)) {
            case 0: DUE.is("about " + b + " " + what, x().about(b, what), plain.about(b, what));
                break;
            case 1: DUE.is("predecessor", x().predecessor(b, i), plain.predecessor(b, i));
                break;
            case 2: DUE.is("dominates", x().dominates(a, b), plain.dominates(a, b));
                break;
            case 3: DUE.is("meets", x().meets(a, b), plain.meets(a, b));
                break;
            case 4: DUE.is("value " + v + " " + what, x().value(v, what), plain.value(v, what));
                break;
            case 5: DUE.is("operand", x().operand(v, i), plain.operand(v, i));
                break;
            case 6: DUE.is("led", x().led(v, i), plain.led(v, i));
                break;
            case 7: DUE.is("classOf", x().classOf(v), plain.classOf(v));
                break;
            case 8: DUE.is("read", x().read(b, led), plain.read(b, led));
                break;
            case 9: DUE.is("emits", x().emits(b, i, led), plain.emits(b, i, led));
                break;
            default: DUE.is("count " + what, x().count(what), plain.count(what));
                break;
        }
    }

    private static void wholeProgram() {
        int blocks = 1 + any(16);
        reach = blocks;
        for (int b = 0; b < blocks; b++) {
            blockBoth();
            endBoth(b);
        }
        int size = any(120);
        for (int i = 0; i < size; i++) {
            putBoth();
        }
        askAll();
        for (int f = 1; f <= 10; f++) {
            DUE.is("fuel " + f * f * f, x().fuel(f * f * f), plain.fuel(f * f * f));
            for (int form = 0; form <= 2; form++) {
                if (calls > MOST_CALLS - 20) {
                    return;
                }
                runBoth(form);
            }
        }
    }

    private static void askAll() {
        int values = plain.count(3);
        for (int what = -1; what <= 7; what++) {
            DUE.is("count " + what, x().count(what), plain.count(what));
            for (int b = -1; b <= 16; b++) {
                DUE.is("about " + b + " " + what, x().about(b, what), plain.about(b, what));
            }
            for (int v = -1; v <= values; v++) {
                DUE.is("value " + v + " " + what, x().value(v, what), plain.value(v, what));
            }
        }
        for (int b = -1; b <= 16; b++) {
            for (int i = -1; i <= 16; i++) {
                DUE.is("predecessor", x().predecessor(b, i), plain.predecessor(b, i));
                DUE.is("dominates", x().dominates(b, i), plain.dominates(b, i));
                DUE.is("meets", x().meets(b, i), plain.meets(b, i));
                DUE.is("emits", x().emits(b, i, false), plain.emits(b, i, false));
                DUE.is("emits in LED", x().emits(b, i, true), plain.emits(b, i, true));
            }
            DUE.is("read", x().read(b, false), plain.read(b, false));
            DUE.is("read in LED", x().read(b, true), plain.read(b, true));
        }
        for (int v = -1; v <= values; v++) {
            DUE.is("classOf", x().classOf(v), plain.classOf(v));
            for (int i = -1; i <= 17; i++) {
                DUE.is("operand", x().operand(v, i), plain.operand(v, i));
                DUE.is("led", x().led(v, i), plain.led(v, i));
            }
        }
        // What follows runs, so it begins with a new object on both sides alike.
        calls = MOST_CALLS;
    }
}
