/**
 * What it is: ".. all three forms are run, and do the same." Programs drawn by a fixed rule are
 * run in all of them, with a new object for each form, so that none is used for over 512 calls.
 */
public final class FormsTest {
    private static final Due DUE = new Due("FormsTest");
    private static final int MOST_KEPT = 60;
    private static final int PROGRAMS = 3000;

    private static int returned = 0;
    private static int out = 0;
    private static int shortened = 0;
    private static int wentRound = 0;

    /** What one RUN showed. */
    private record Shown(int answer, int[] ran, int[] emitted, boolean wentRound) {
        int kept() {
            return Math.min(ran[2], MOST_KEPT);
        }
    }

    public static void main(String[] args) {
        for (int n = 1; n <= PROGRAMS; n++) {
            oneProgram(n);
        }
        // The programs must be such that there was something to go wrong.
        DUE.is("many came to RETURN", returned > PROGRAMS / 2, true);
        DUE.is("many were OUT", out > PROGRAMS / 10, true);
        DUE.is("many went round ahead of RETURN", wentRound > PROGRAMS / 10, true);
        DUE.is("many took less in LED", shortened > PROGRAMS / 3, true);
        DUE.end();
    }

    private static void oneProgram(int n) {
        Draws inputs = new Draws(-n);
        int[] given = {inputs.any(4), inputs.any(7) - 3, inputs.any(100) - 50, inputs.any(2)};
        Shown told = shown(n, 0, given);
        Shown valued = shown(n, 1, given);
        Shown led = shown(n, 2, given);
        doesTheSame("VALUED of program " + n, told, valued);
        doesTheSame("LED of program " + n, valued, led);
        returned += told.answer == 0 ? 1 : 0;
        out += led.answer == 1 ? 1 : 0;
        wentRound += told.answer == 0 && told.wentRound ? 1 : 0;
        shortened += led.ran[1] < valued.ran[1] ? 1 : 0;
    }

    private static ValueBench drawn(int n) {
        Draws draws = new Draws(n);
        ValueBench x = new ValueBench();
        int blocks = 1 + draws.any(16);
        for (int b = 0; b < blocks; b++) {
            x.block();
        }
        // Few VARIABLES make much that stands together; many make much that does not.
        int variables = 2 + draws.any(6);
        if (n % 2 == 0) {
            drawCountedWays(draws, x, blocks);
            drawInstructions(draws, x, blocks, variables);
        } else {
            drawWays(draws, x, blocks);
            drawInstructions(draws, x, blocks, variables + 2);
        }
        return x;
    }

    /** Most BLOCKS go on to the next one; who goes back often does so without an end. */
    private static void drawWays(Draws draws, ValueBench x, int blocks) {
        for (int b = 0; b < blocks; b++) {
            int how = draws.any(12);
            int next = draws.any(4) == 0 ? draws.any(blocks) : Math.min(b + 1, 15);
            x.ends(b, how == 0 ? 0 : how < 4 ? 1 : 2, draws.any(10), next, draws.any(blocks));
        }
    }

    /** Who goes back counts VARIABLE 9 down, and goes on when it has come to 1. */
    private static void drawCountedWays(Draws draws, ValueBench x, int blocks) {
        x.put(0, 0, 9, 2 + draws.any(20), 0);
        x.put(0, 0, 8, 1, 0);
        for (int b = 0; b < blocks; b++) {
            int next = Math.min(b + 1, 15);
            if (b > 0 && draws.any(3) == 0) {
                x.put(b, 4, 9, 9, 8);
                x.put(b, 10, 7, 8, 9);
                x.ends(b, 2, 7, 1 + draws.any(b), next);
            } else {
                x.ends(b, 2, draws.any(7), next, Math.min(b + 1 + draws.any(4), 15));
            }
        }
    }

    private static void drawInstructions(Draws draws, ValueBench x, int blocks, int variables) {
        int kinds = 1 + draws.any(11);
        int size = draws.any(101);
        for (int i = 0; i < size; i++) {
            int pick = draws.any(20);
            int kind = pick < 3 ? 0 : pick < 5 ? 1 : pick < 7 ? 2 : pick < 9 ? 14
                    : 3 + draws.any(kinds);
            int b = kind == 0 ? draws.any(5) - 2 : kind == 1 ? draws.any(4) : draws.any(variables);
            x.put(draws.any(blocks), kind, draws.any(variables), b, draws.any(variables));
        }
    }

    private static Shown shown(int n, int form, int[] given) {
        ValueBench x = drawn(n);
        x.fuel(5000);
        int answer = x.run(form, given[0], given[1], given[2], given[3]);
        int[] ran = new int[4];
        for (int what = 0; what < 4; what++) {
            ran[what] = x.ran(what);
        }
        int[] emitted = new int[MOST_KEPT];
        for (int i = 0; i < MOST_KEPT; i++) {
            emitted[i] = x.emitted(i);
        }
        // Who takes more FUEL than all that is told does some of it twice.
        return new Shown(answer, ran, emitted, ran[1] > x.count(0) + x.count(1));
    }

    /** The later form takes no more FUEL, so it comes at least as far as the earlier one. */
    private static void doesTheSame(String title, Shown earlier, Shown later) {
        if (earlier.answer == 0) {
            DUE.is(title + ": run", later.answer, 0);
            DUE.is(title + ": ran 0", later.ran[0], earlier.ran[0]);
            DUE.is(title + ": ran 2", later.ran[2], earlier.ran[2]);
            DUE.is(title + ": ran 3", later.ran[3], earlier.ran[3]);
        }
        DUE.is(title + " takes no more", later.ran[1] <= earlier.ran[1], true);
        DUE.is(title + " emits no less", later.ran[2] >= earlier.ran[2], true);
        for (int i = 0; i < earlier.kept(); i++) {
            DUE.is(title + ": emitted " + i, later.emitted[i], earlier.emitted[i]);
        }
    }
}
