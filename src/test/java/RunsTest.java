/** Promises 16 to 20: run, fuel, ran, emitted, count. */
public final class RunsTest {
    private static final Due DUE = new Due("RunsTest");
    private static final int NONE = ValueBench.NONE;
    private static final int LEAST = Integer.MIN_VALUE;
    private static final int MOST = Integer.MAX_VALUE;

    public static void main(String[] args) {
        operations();
        inputs();
        formsAndFuel();
        countdown();
        endOfFuel();
        fuelAnswers();
        manyNumbers();
        latestRun();
        branches();
        counts();
        fullBench();
        DUE.end();
    }

    private static void operations() {
        int[][] due = {
            {3, 2, 3, 5}, {3, MOST, 1, LEAST}, {4, 2, 3, -1}, {4, LEAST, 1, MOST},
            {5, 7, -6, -42}, {5, 65536, 65536, 0}, {5, LEAST, -1, LEAST}, {6, 12, 10, 8},
            {7, 12, 10, 14}, {8, 12, 10, 6}, {9, 4, 4, 1}, {9, 4, 5, 0}, {10, -1, 0, 1},
            {10, 0, -1, 0}, {10, 3, 3, 0}, {10, LEAST, MOST, 1}, {11, 3, 4, 48},
            {11, 3, 32, 3}, {11, 3, 33, 6}, {11, 1, -1, LEAST}, {11, 1, 31, LEAST},
            {12, -8, 1, -4}, {12, -1, 31, -1}, {12, 8, 34, 2}, {12, LEAST, -1, -1},
            {12, MOST, 31, 0}, {13, 7, 2, 3}, {13, -7, 2, -3}, {13, 7, -2, -3},
            {13, -7, -2, 3}, {13, 7, 0, 0}, {13, LEAST, 0, 0}, {13, 0, 0, 0},
            {13, LEAST, -1, LEAST}, {13, MOST, -1, -MOST}, {13, LEAST, 1, LEAST},
            {13, LEAST, LEAST, 1}, {13, MOST, LEAST, 0},
        };
        for (int[] row : due) {
            ValueBench x = new ValueBench();
            x.block();
            x.put(0, 1, 1, 0, 0);
            x.put(0, 0, 2, row[2], 0);
            x.put(0, row[0], 3, 1, 2);
            x.ends(0, 0, 3, 0, 0);
            for (int form = 0; form <= 2; form++) {
                DUE.is("run", x.run(form, row[1], 0, 0, 0), 0);
                DUE.is("kind " + row[0] + " of " + row[1] + " " + row[2] + " in " + form,
                        x.ran(0), row[3]);
            }
        }
    }

    private static void inputs() {
        ValueBench x = new ValueBench();
        x.block();
        for (int k = 3; k >= 0; k--) {
            x.put(0, 1, 5, k, 0);
            x.put(0, 14, 5, 0, 0);
        }
        x.ends(0, 0, 8, 0, 0);
        for (int form = 0; form <= 2; form++) {
            x.run(form, 10, LEAST, MOST, -4);
            DUE.is("INPUT 3", x.emitted(0), -4);
            DUE.is("INPUT 2", x.emitted(1), MOST);
            DUE.is("INPUT 1", x.emitted(2), LEAST);
            DUE.is("INPUT 0", x.emitted(3), 10);
            DUE.is("VARIABLES are 0 at first", x.ran(0), 0);
        }
    }

    private static void formsAndFuel() {
        ValueBench x = new ValueBench();
        DUE.is("without BLOCKS", x.run(0, 0, 0, 0, 0), NONE);
        x.block();
        x.put(0, 0, 0, 6, 0);
        x.put(0, 0, 1, 6, 0);
        x.put(0, 2, 2, 1, 0);
        x.put(0, 0, 3, 0, 0);
        x.put(0, 14, 2, 0, 0);
        x.put(0, 14, 3, 0, 0);
        x.ends(0, 0, 1, 0, 0);
        int[] took = {7, 6, 4};
        for (int form = 0; form <= 2; form++) {
            DUE.is("run " + form, x.run(form, 0, 0, 0, 0), 0);
            DUE.is("returned", x.ran(0), 6);
            DUE.is("FUEL of " + form, x.ran(1), took[form]);
            DUE.is("numbers", x.ran(2), 2);
            DUE.is("block", x.ran(3), 0);
            DUE.is("first", x.emitted(0), 6);
            DUE.is("second", x.emitted(1), 0);
        }
        DUE.is("form 3", x.run(3, 0, 0, 0, 0), NONE);
        DUE.is("form -1", x.run(-1, 0, 0, 0, 0), NONE);
        DUE.is("the greatest form", x.run(MOST, 0, 0, 0, 0), NONE);
        DUE.is("what was run stays", x.ran(1), 4);
        // VARIABLES begin at 0 again with each RUN.
        x.put(0, 3, 4, 4, 0);
        x.ends(0, 0, 4, 0, 0);
        for (int form = 0; form <= 2; form++) {
            x.run(form, 0, 0, 0, 0);
            x.run(form, 0, 0, 0, 0);
            DUE.is("0 + 6", x.ran(0), 6);
        }
    }

    private static void countdown() {
        ValueBench x = new ValueBench();
        for (int b = 0; b < 4; b++) {
            x.block();
        }
        x.put(0, 0, 0, 10, 0);
        x.put(0, 1, 1, 0, 0);
        x.ends(0, 1, 0, 1, 0);
        x.ends(1, 2, 0, 2, 3);
        x.put(2, 0, 2, 1, 0);
        x.put(2, 4, 0, 0, 2);
        x.put(2, 3, 1, 1, 2);
        x.put(2, 14, 1, 0, 0);
        x.ends(2, 1, 0, 1, 0);
        x.put(3, 2, 3, 1, 0);
        x.ends(3, 0, 3, 0, 0);
        int[] took = {66, 65, 65};
        for (int form = 0; form <= 2; form++) {
            DUE.is("run " + form, x.run(form, 5, 0, 0, 0), 0);
            DUE.is("returned", x.ran(0), 15);
            DUE.is("FUEL of " + form, x.ran(1), took[form]);
            DUE.is("numbers", x.ran(2), 10);
            DUE.is("block", x.ran(3), 3);
            for (int i = 0; i < 10; i++) {
                DUE.is("emitted " + i, x.emitted(i), 6 + i);
            }
            DUE.is("emitted 10", x.emitted(10), 0);
            DUE.is("emitted -1", x.emitted(-1), 0);
        }
        for (int form = 0; form <= 2; form++) {
            x.fuel(took[form]);
            DUE.is("just enough", x.run(form, 5, 0, 0, 0), 0);
            x.fuel(took[form] - 1);
            DUE.is("one too few", x.run(form, 5, 0, 0, 0), 1);
            DUE.is("OUT returns 0", x.ran(0), 0);
            DUE.is("OUT took all", x.ran(1), took[form] - 1);
            DUE.is("OUT emitted", x.ran(2), 10);
            DUE.is("OUT ended", x.ran(3), 3);
        }
    }

    private static void endOfFuel() {
        ValueBench x = new ValueBench();
        x.block();
        x.block();
        x.put(0, 0, 0, 4, 0);
        x.put(0, 14, 0, 0, 0);
        x.put(0, 14, 0, 0, 0);
        x.ends(0, 1, 0, 1, 0);
        x.put(1, 14, 0, 0, 0);
        // FUEL, the answer, what is returned, FUEL taken, numbers, the block.
        int[][] due = {
            {1, 1, 0, 1, 0, 0}, {2, 1, 0, 2, 1, 0}, {3, 1, 0, 3, 2, 0}, {4, 1, 0, 4, 2, 1},
            {5, 1, 0, 5, 3, 1}, {6, 0, 4, 6, 3, 1}, {7, 0, 4, 6, 3, 1},
        };
        for (int[] row : due) {
            x.fuel(row[0]);
            for (int form = 0; form <= 2; form++) {
                DUE.is("run with " + row[0], x.run(form, 0, 0, 0, 0), row[1]);
                for (int what = 0; what <= 3; what++) {
                    DUE.is("ran " + what + " with " + row[0], x.ran(what), row[2 + what]);
                }
            }
        }
        ValueBench y = new ValueBench();
        y.block();
        y.fuel(1);
        DUE.is("RETURN alone takes 1", y.run(0, 0, 0, 0, 0), 0);
        y.fuel(5000);
        y.ends(0, 1, 0, 0, 0);
        for (int form = 0; form <= 2; form++) {
            DUE.is("round and round", y.run(form, 0, 0, 0, 0), 1);
            DUE.is("took all", y.ran(1), 5000);
        }
    }

    private static void fuelAnswers() {
        ValueBench x = new ValueBench();
        DUE.is("at first", x.fuel(5000), 1000);
        DUE.is("1", x.fuel(1), 5000);
        DUE.is("0", x.fuel(0), NONE);
        DUE.is("5001", x.fuel(5001), NONE);
        DUE.is("-1", x.fuel(-1), NONE);
        DUE.is("least", x.fuel(LEAST), NONE);
        DUE.is("most", x.fuel(MOST), NONE);
        DUE.is("unchanged", x.fuel(2), 1);
        ValueBench y = new ValueBench();
        y.block();
        y.ends(0, 1, 0, 0, 0);
        y.run(0, 0, 0, 0, 0);
        DUE.is("FUEL at first", y.ran(1), 1000);
    }

    private static void manyNumbers() {
        ValueBench x = new ValueBench();
        x.block();
        x.put(0, 0, 1, 1, 0);
        x.put(0, 3, 0, 0, 1);
        x.put(0, 14, 0, 0, 0);
        x.put(0, 1, 2, 0, 0);
        x.put(0, 10, 3, 0, 2);
        x.block();
        x.ends(0, 2, 3, 0, 1);
        for (int form = 0; form <= 2; form++) {
            for (int last = 59; last <= 62; last++) {
                DUE.is("run", x.run(form, last, 0, 0, 0), 0);
                DUE.is("numbers", x.ran(2), last);
                DUE.is("the 58th", x.emitted(58), 59);
                DUE.is("the 59th", x.emitted(59), last > 59 ? 60 : 0);
                DUE.is("the 60th isn't kept", x.emitted(60), 0);
                DUE.is("the 61st isn't kept", x.emitted(61), 0);
            }
        }
        DUE.is("-1", x.emitted(-1), 0);
        DUE.is("least", x.emitted(LEAST), 0);
        DUE.is("most", x.emitted(MOST), 0);
        DUE.is("first", x.emitted(0), 1);
        x.run(0, 2, 0, 0, 0);
        DUE.is("fewer now", x.ran(2), 2);
        DUE.is("those of earlier RUNS are gone", x.emitted(2), 0);
    }

    private static void latestRun() {
        ValueBench x = new ValueBench();
        x.block();
        x.put(0, 0, 0, 8, 0);
        x.run(1, 0, 0, 0, 0);
        x.put(0, 0, 0, 9, 0);
        x.block();
        x.ends(0, 1, 0, 1, 0);
        DUE.is("ran stays as it was", x.ran(0), 8);
        DUE.is("FUEL too", x.ran(1), 2);
        DUE.is("what 4", x.ran(4), 0);
        DUE.is("what -1", x.ran(-1), 0);
        DUE.is("what MOST", x.ran(MOST), 0);
        x.run(5, 0, 0, 0, 0);
        DUE.is("NONE does nothing", x.ran(0), 8);
        x.run(1, 0, 0, 0, 0);
        DUE.is("and now", x.ran(0), 9);
        DUE.is("at", x.ran(3), 1);
    }

    private static void branches() {
        ValueBench x = new ValueBench();
        for (int b = 0; b < 3; b++) {
            x.block();
        }
        x.put(0, 1, 1, 0, 0);
        x.ends(0, 2, 1, 2, 1);
        int[][] due = {{1, 2}, {-1, 2}, {LEAST, 2}, {0, 1}};
        for (int[] row : due) {
            for (int form = 0; form <= 2; form++) {
                x.run(form, row[0], 0, 0, 0);
                DUE.is("BRANCH of " + row[0], x.ran(3), row[1]);
            }
        }
    }

    private static void counts() {
        ValueBench x = new ValueBench();
        for (int b = 0; b < 5; b++) {
            x.block();
        }
        x.ends(0, 2, 9, 1, 2);
        x.put(1, 0, 0, 1, 0);
        x.put(1, 0, 1, 0, 0);
        x.put(2, 0, 0, 1, 0);
        x.put(2, 0, 0, 1, 0);
        x.put(2, 14, 0, 0, 0);
        x.put(4, 0, 0, 2, 0);
        x.ends(1, 1, 0, 3, 0);
        x.ends(2, 1, 0, 3, 0);
        // VALUES: ZERO; 1 CONST 1, 2 CONST 0; 3, 4 CONST 1; 5, 6 CHOICES of 0, 1.
        int[] due = {5, 6, 4, 7, 4, 2, 2};
        for (int what = 0; what <= 6; what++) {
            DUE.is("count " + what, x.count(what), due[what]);
        }
        DUE.is("count 7", x.count(7), NONE);
        DUE.is("count -1", x.count(-1), NONE);
        DUE.is("count MOST", x.count(MOST), NONE);
        ValueBench y = new ValueBench();
        y.block();
        int[] alone = {1, 0, 1, 1, 1, 0, 0};
        for (int what = 0; what <= 6; what++) {
            DUE.is("count " + what + " of one block", y.count(what), alone[what]);
        }
    }

    /** As many VALUES and OPERANDS as there can be: all limits at once. */
    private static void fullBench() {
        ValueBench x = new ValueBench();
        for (int b = 0; b < 16; b++) {
            x.block();
        }
        for (int b = 0; b < 16; b++) {
            x.ends(b, 2, b % 10, (b + 1) % 16, b == 0 ? 0 : (b + 8) % 16);
        }
        for (int i = 0; i < 100; i++) {
            x.put(i % 16, 3 + i % 11, i % 10, i / 10, i % 7);
        }
        DUE.is("told", x.count(1), 100);
        DUE.is("VALUES", x.count(3), 101 + x.count(6));
        DUE.is("every BLOCK is reached", x.count(2), 16);
        DUE.is("CHOICES are many", x.count(6) > 100, true);
        x.fuel(5000);
        for (int form = 0; form <= 2; form++) {
            DUE.is("run", x.run(form, 1, 2, 3, 4) >= 0, true);
        }
    }
}
