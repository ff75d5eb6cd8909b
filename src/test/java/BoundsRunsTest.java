import java.math.BigInteger;

/** Promises 16 to 20 and terms I and V: numbers that go round, FUEL, what is kept, counts. */
public final class BoundsRunsTest {
    private static final Due DUE = new Due("BoundsRunsTest");
    private static final int NONE = ValueBench.NONE;
    private static final int LEAST = Stories.LEAST;
    private static final int MOST = Stories.MOST;
    private static final int[] NUMBERS = {LEAST, LEAST + 1, -5001, -65, -64, -33, -32, -31, -2, -1,
        0, 1, 2, 3, 4, 5, 6, 7, 8, 30, 31, 32, 33, 58, 59, 60, 61, 63, 64, 65, 999, 1000, 4999,
        5000, 5001, 5002, 46341, 65535, 65536, MOST - 1, MOST};

    public static void main(String[] args) {
        numbersGoRound();
        equalAndLess();
        shiftsByFiveBits();
        divisions();
        variablesAreZeroAtFirst();
        inputsComeAsTheyAre();
        branchIfNotZero();
        runForms();
        runWithoutBlocks();
        runNoneDoesNothing();
        runTakesFuelForEach();
        runOfAllThatCanBeTold();
        fuelBounds();
        fuelRefusedChangesNothing();
        fuelAtFirst();
        fuelOfOne();
        fuelToTheLast();
        fuelOfFiveThousand();
        choicesCostNothing();
        choicesAllAtOnce();
        ranAheadOfAny();
        ranWhat();
        ranIfOut();
        ranLatest();
        ranWhere();
        keptFirstSixty();
        emittedOfThatRunAlone();
        emittedUntilOut();
        countWhat();
        countsFromNoneToAll();
        DUE.end();
    }

    private static boolean in(int n, int low, int high) {
        return n >= low && n <= high;
    }

    /** A program that returns kind of INPUT 0 and INPUT 1. */
    private static ValueBench ofInputs(int kind) {
        ValueBench x = Stories.withBlocks(1);
        x.put(0, 1, 1, 0, 0);
        x.put(0, 1, 2, 1, 0);
        x.put(0, kind, 3, 1, 2);
        x.ends(0, 0, 3, 0, 0);
        return x;
    }

    /** What the kinds give by whole numbers without bounds, brought back to 32 bits at the end. */
    private static int due(int kind, int y, int z) {
        BigInteger left = BigInteger.valueOf(y);
        BigInteger right = BigInteger.valueOf(z);
        int lowest = right.mod(BigInteger.valueOf(32)).intValue();
        switch (kind) {
            case 3: return left.add(right).intValue();
            case 4: return left.subtract(right).intValue();
            case 5: return left.multiply(right).intValue();
            case 6: return left.and(right).intValue();
            case 7: return left.or(right).intValue();
            case 8: return left.xor(right).intValue();
            case 9: return left.equals(right) ? 1 : 0;
            case 10: return left.compareTo(right) < 0 ? 1 : 0;
            case 11: return left.shiftLeft(lowest).intValue();
            case 12: return left.shiftRight(lowest).intValue();
            default: return z == 0 ? 0 : left.divide(right).intValue();
        }
    }

    private static void numbersGoRound() {
        DUE.of("I: numbers have 32 bits and go round");
        int[][] named = {{3, MOST, 1, LEAST}, {3, LEAST, -1, MOST}, {3, LEAST, LEAST, 0},
            {4, LEAST, 1, MOST}, {4, MOST, -1, LEAST}, {4, 0, LEAST, LEAST},
            {5, 65536, 65536, 0}, {5, 65536, 32768, LEAST}, {5, 46341, 46341, -2147479015},
            {5, LEAST, -1, LEAST}, {11, 1, 31, LEAST}, {11, 3, 31, LEAST}, {11, MOST, 1, -2}};
        for (int[] row : named) {
            ValueBench x = ofInputs(row[0]);
            for (int form = 0; form <= 2; form++) {
                x.run(form, row[1], row[2], 0, 0);
                DUE.is("kind " + row[0] + " of " + row[1] + ", " + row[2], x.ran(0), row[3]);
            }
        }
        for (int kind = 3; kind <= 13; kind++) {
            for (int y : NUMBERS) {
                ValueBench x = ofInputs(kind);
                for (int z : NUMBERS) {
                    for (int form = 0; form <= 2; form++) {
                        x.run(form, y, z, 0, 0);
                        DUE.is("kind " + kind + " of " + y + ", " + z, x.ran(0), due(kind, y, z));
                    }
                }
            }
        }
    }

    private static void ofInputsIs(int kind, int y, int z, int want) {
        ValueBench x = ofInputs(kind);
        for (int form = 0; form <= 2; form++) {
            x.run(form, y, z, 0, 0);
            DUE.is("kind " + kind + " of " + y + ", " + z + " in " + form, x.ran(0), want);
        }
    }

    private static void equalAndLess() {
        DUE.of("I: 9 EQ, 10 LESS (with sign; these two give 1 or 0)");
        ofInputsIs(9, 0, 0, 1);
        ofInputsIs(9, LEAST, LEAST, 1);
        ofInputsIs(9, LEAST, MOST, 0);
        ofInputsIs(9, 0, LEAST, 0);
        ofInputsIs(9, 1, 65537, 0);
        ofInputsIs(10, -1, 0, 1);
        ofInputsIs(10, 0, 0, 0);
        ofInputsIs(10, 0, -1, 0);
        ofInputsIs(10, LEAST, MOST, 1);
        ofInputsIs(10, MOST, LEAST, 0);
        ofInputsIs(10, LEAST, LEAST + 1, 1);
        ofInputsIs(10, MOST - 1, MOST, 1);
        ofInputsIs(10, MOST, MOST, 0);
    }

    private static void shiftsByFiveBits() {
        DUE.of("I: 11 SHL, 12 SHR (with sign; both by the lowest five bits of z)");
        int[][] by = {{0, 0}, {1, 1}, {30, 30}, {31, 31}, {32, 0}, {33, 1}, {63, 31}, {64, 0},
            {-1, 31}, {-32, 0}, {-31, 1}, {LEAST, 0}, {LEAST + 1, 1}, {MOST, 31}};
        for (int[] row : by) {
            // 5 * 2^n, and -5 and 5 by 2^n towards the lesser number.
            long power = 1L << row[1];
            ofInputsIs(11, 5, row[0], (int) (5 * power));
            ofInputsIs(12, -5, row[0], (int) Math.floorDiv(-5L, power));
            ofInputsIs(12, 5, row[0], (int) Math.floorDiv(5L, power));
        }
        ofInputsIs(12, LEAST, 31, -1);
        ofInputsIs(12, MOST, 31, 0);
        ofInputsIs(12, LEAST, 32, LEAST);
    }

    private static void divisions() {
        DUE.of("I: 13 DIV (towards 0; by 0 it is 0; the least number by -1 is itself)");
        int[][] rows = {{7, 2, 3}, {-7, 2, -3}, {7, -2, -3}, {-7, -2, 3}, {1, 2, 0}, {-1, 2, 0},
            {0, 5, 0}, {0, 0, 0}, {1, 0, 0}, {-1, 0, 0}, {LEAST, 0, 0}, {MOST, 0, 0},
            {LEAST, -1, LEAST}, {LEAST + 1, -1, MOST}, {MOST, -1, LEAST + 1}, {LEAST, 1, LEAST},
            {LEAST, 2, -1073741824}, {LEAST, -2, 1073741824}, {LEAST, LEAST, 1}, {MOST, LEAST, 0},
            {LEAST, MOST, -1}, {5, -1, -5}, {0, -1, 0}};
        for (int[] row : rows) {
            ofInputsIs(13, row[0], row[1], row[2]);
        }
    }

    private static void variablesAreZeroAtFirst() {
        DUE.of("I: VARIABLES 0 to 9 are 0 at first");
        ValueBench x = Stories.withBlocks(1);
        for (int v = 0; v <= 9; v++) {
            x.put(0, 14, v, 0, 0);
        }
        for (int v = 0; v <= 9; v++) {
            x.put(0, 0, v, 60 + v, 0);
        }
        for (int form = 0; form <= 2; form++) {
            for (int again = 0; again < 2; again++) {
                x.run(form, 1, 2, 3, 4);
                for (int v = 0; v <= 9; v++) {
                    DUE.is("VARIABLE " + v + " in " + form, x.emitted(v), 0);
                }
                DUE.is("returned", x.ran(0), 60);
            }
        }
    }

    private static void inputsComeAsTheyAre() {
        DUE.of("16: for four INPUTS");
        ValueBench x = Stories.withBlocks(1);
        for (int k = 0; k <= 3; k++) {
            x.put(0, 1, k, k, 0);
            x.put(0, 14, k, 0, 0);
        }
        int[][] rows = {{LEAST, MOST, -1, 0}, {1, 2, 3, 4}, {0, 0, 0, LEAST}};
        for (int[] row : rows) {
            for (int form = 0; form <= 2; form++) {
                x.run(form, row[0], row[1], row[2], row[3]);
                for (int k = 0; k <= 3; k++) {
                    DUE.is("INPUT " + k + " in " + form, x.emitted(k), row[k]);
                }
            }
        }
    }

    private static void branchIfNotZero() {
        DUE.of("I: 2 BRANCH y b c (to b if y is not 0, else to c)");
        ValueBench x = Stories.withBlocks(16);
        x.put(0, 1, 9, 3, 0);
        x.ends(0, 2, 9, 15, 1);
        for (int n : NUMBERS) {
            for (int form = 0; form <= 2; form++) {
                x.run(form, 0, 0, 0, n);
                DUE.is("BRANCH of " + n, x.ran(3), n == 0 ? 1 : 15);
            }
        }
        ValueBench y = Stories.withBlocks(2);
        y.ends(0, 2, 0, 1, 1);
        for (int form = 0; form <= 2; form++) {
            DUE.is("both ways the same", y.run(form, 0, 0, 0, 0), 0);
            DUE.is("there", y.ran(3), 1);
        }
    }

    private static void runForms() {
        DUE.of("16: NONE: without a form");
        for (int form : NUMBERS) {
            ValueBench x = new ValueBench();
            Stories.some(x);
            DUE.is("run " + form, x.run(form, 1, 0, 0, 0), in(form, 0, 2) ? 0 : NONE);
        }
    }

    private static void runWithoutBlocks() {
        DUE.of("16: NONE: without BLOCKS");
        for (int form : NUMBERS) {
            ValueBench x = new ValueBench();
            DUE.is("run " + form + " of nothing", x.run(form, 0, 0, 0, 0), NONE);
            x.block();
            DUE.is("run " + form + " of one", x.run(form, 0, 0, 0, 0), in(form, 0, 2) ? 0 : NONE);
            x.clear();
            DUE.is("run " + form + " behind clear", x.run(form, 0, 0, 0, 0), NONE);
        }
    }

    private static void runNoneDoesNothing() {
        DUE.of("16: NONE, doing nothing");
        for (int form : new int[] {-1, 3, LEAST, MOST}) {
            Twins.alike(DUE, "run " + form, Stories::some, x -> {
                Stories.some(x);
                DUE.is("run " + form, x.run(form, 9, 9, 9, 9), NONE);
            });
        }
        for (int form = -1; form <= 3; form++) {
            int which = form;
            Twins.alike(DUE, "run " + form + " of nothing", Stories::nothing,
                    x -> DUE.is("run " + which, x.run(which, 9, 9, 9, 9), NONE));
            Twins.alike(DUE, "run " + form + " behind clear", x -> {
                Stories.some(x);
                x.clear();
            }, x -> {
                Stories.some(x);
                x.clear();
                DUE.is("run " + which, x.run(which, 9, 9, 9, 9), NONE);
            });
        }
    }

    /** Runs it with each FUEL around the one that it takes. */
    private static void takes(ValueBench x, int form, int fuel, int returned) {
        String run = "run " + form + " of FUEL " + fuel;
        x.fuel(fuel);
        DUE.is(run, x.run(form, 0, 0, 0, 0), 0);
        DUE.is(run + ": took", x.ran(1), fuel);
        DUE.is(run + ": returned", x.ran(0), returned);
        x.fuel(fuel + 1);
        DUE.is(run + ", one more", x.run(form, 0, 0, 0, 0), 0);
        DUE.is(run + ", one more: took", x.ran(1), fuel);
        if (fuel > 1) {
            x.fuel(fuel - 1);
            DUE.is(run + ", one fewer", x.run(form, 0, 0, 0, 0), 1);
            DUE.is(run + ", one fewer: took", x.ran(1), fuel - 1);
            DUE.is(run + ", one fewer: returned", x.ran(0), 0);
        }
    }

    private static void runTakesFuelForEach() {
        DUE.of("V: one for each INSTRUCTION (of TOLD all, of VALUED all but COPY, of LED ..)");
        for (int kind = 0; kind <= 14; kind++) {
            ValueBench x = Stories.withBlocks(1);
            x.put(0, 1, 1, 0, 0);
            x.put(0, kind, 3, 2, 1);
            x.put(0, kind, 4, 2, 1);
            int valued = kind == 2 ? 2 : 4;
            takes(x, 0, 4, 0);
            takes(x, 1, valued, 0);
            // What is told twice goes; EMIT does not, nor is COPY there to go.
            takes(x, 2, kind == 2 || kind == 14 ? valued : 3, 0);
        }
        ValueBench zeros = Stories.withBlocks(1);
        zeros.put(0, 0, 0, 0, 0);
        takes(zeros, 0, 2, 0);
        takes(zeros, 1, 2, 0);
        takes(zeros, 2, 1, 0);
    }

    private static void runOfAllThatCanBeTold() {
        DUE.of("V: .. and one for each END");
        ValueBench x = Stories.withBlocks(16);
        for (int b = 0; b < 15; b++) {
            x.ends(b, b % 2 + 1, 0, b + 1, b + 1);
        }
        for (int form = 0; form <= 2; form++) {
            takes(x, form, 16, 0);
        }
        for (int n = 0; n < 100; n++) {
            x.put(n % 16, 0, 0, 1 + n, 0);
        }
        for (int form = 0; form <= 2; form++) {
            takes(x, form, 116, 96);
        }
    }

    private static void fuelBounds() {
        DUE.of("17: NONE .. if it is not 1 to 5000");
        for (int f : NUMBERS) {
            ValueBench x = new ValueBench();
            boolean good = in(f, 1, 5000);
            DUE.is("fuel " + f, x.fuel(f), good ? 1000 : NONE);
            DUE.is("what it was", x.fuel(1), good ? f : 1000);
        }
    }

    private static void fuelRefusedChangesNothing() {
        DUE.of("17: NONE, changing nothing");
        for (int f : new int[] {0, -1, 5001, LEAST, MOST}) {
            Twins.alike(DUE, "fuel " + f, Stories::some, x -> {
                Stories.some(x);
                DUE.is("fuel " + f, x.fuel(f), NONE);
            });
            Twins.alike(DUE, "fuel " + f + " at first", Stories::entryAlone, x -> {
                DUE.is("fuel " + f, x.fuel(f), NONE);
                Stories.entryAlone(x);
            });
        }
    }

    private static ValueBench roundAndRound() {
        ValueBench x = Stories.withBlocks(1);
        x.ends(0, 1, 0, 0, 0);
        return x;
    }

    private static void fuelAtFirst() {
        DUE.of("17: The FUEL of RUNS from now on (1000 at first): what it was");
        ValueBench x = roundAndRound();
        DUE.is("run", x.run(0, 0, 0, 0, 0), 1);
        DUE.is("took", x.ran(1), 1000);
        DUE.is("fuel", x.fuel(20), 1000);
        DUE.is("the latest run took", x.ran(1), 1000);
        DUE.is("fuel again", x.fuel(30), 20);
        DUE.is("the same again", x.fuel(30), 30);
        x.run(1, 0, 0, 0, 0);
        DUE.is("from now on", x.ran(1), 30);
        x.run(2, 0, 0, 0, 0);
        DUE.is("and on: a RUN uses none of it up", x.ran(1), 30);
        DUE.is("nor changes it", x.fuel(1), 30);
        ValueBench y = Stories.withBlocks(1);
        y.fuel(5000);
        DUE.is("of another object", new ValueBench().fuel(1), 1000);
    }

    private static void fuelOfOne() {
        DUE.of("V: FUEL, 1 ..");
        ValueBench x = Stories.withBlocks(2);
        x.fuel(1);
        for (int form = 0; form <= 2; form++) {
            DUE.is("an END alone", x.run(form, 0, 0, 0, 0), 0);
            DUE.is("took", x.ran(1), 1);
        }
        x.put(0, 14, 0, 0, 0);
        for (int form = 0; form <= 2; form++) {
            DUE.is("an EMIT and an END", x.run(form, 0, 0, 0, 0), 1);
            DUE.is("took", x.ran(1), 1);
            DUE.is("told", x.ran(2), 1);
        }
    }

    private static void fuelToTheLast() {
        DUE.of("V: When there is none left, it is OUT");
        ValueBench x = Stories.withBlocks(3);
        x.put(0, 14, 0, 0, 0);
        x.ends(0, 1, 0, 2, 0);
        x.put(2, 14, 0, 0, 0);
        x.put(2, 14, 0, 0, 0);
        x.ends(2, 2, 0, 1, 1);
        // FUEL: the answer, what it took, numbers, the BLOCK.
        int[][] due = {{1, 1, 1, 0}, {1, 2, 1, 2}, {1, 3, 2, 2}, {1, 4, 3, 2}, {1, 5, 3, 1},
            {0, 6, 3, 1}, {0, 6, 3, 1}};
        for (int f = 1; f <= due.length; f++) {
            x.fuel(f);
            for (int form = 0; form <= 2; form++) {
                DUE.is("run " + form + " with " + f, x.run(form, 0, 0, 0, 0), due[f - 1][0]);
                for (int what = 1; what <= 3; what++) {
                    DUE.is("ran " + what + " with " + f, x.ran(what), due[f - 1][what]);
                }
            }
        }
    }

    /** Takes 4 + 2 n for INPUT 0 of n, and one more if it is odd. */
    private static ValueBench countdown(boolean odd) {
        ValueBench x = Stories.withBlocks(3);
        x.put(0, 1, 0, 0, 0);
        x.put(0, 0, 1, 1, 0);
        x.ends(0, 1, 0, 1, 0);
        x.put(1, 4, 0, 0, 1);
        x.ends(1, 2, 0, 1, 2);
        if (odd) {
            x.put(2, 0, 2, 8, 0);
        }
        x.ends(2, 0, 1, 0, 0);
        return x;
    }

    private static void fuelOfFiveThousand() {
        DUE.of("V: FUEL, .. to 5000");
        ValueBench even = countdown(false);
        ValueBench odd = countdown(true);
        even.fuel(5000);
        odd.fuel(5000);
        for (int form = 0; form <= 2; form++) {
            DUE.is("of 5000", even.run(form, 2498, 0, 0, 0), 0);
            DUE.is("took", even.ran(1), 5000);
            DUE.is("returned", even.ran(0), 1);
            DUE.is("of 5001", odd.run(form, 2498, 0, 0, 0), 1);
            DUE.is("took all", odd.ran(1), 5000);
            DUE.is("returned none", odd.ran(0), 0);
            DUE.is("in its last BLOCK", odd.ran(3), 2);
            DUE.is("of 4999", odd.run(form, 2497, 0, 0, 0), 0);
            DUE.is("took so", odd.ran(1), 4999);
        }
        even.fuel(4999);
        for (int form = 0; form <= 2; form++) {
            DUE.is("one too few", even.run(form, 2498, 0, 0, 0), 1);
            DUE.is("took", even.ran(1), 4999);
        }
        ValueBench x = roundAndRound();
        x.fuel(5000);
        for (int form = 0; form <= 2; form++) {
            DUE.is("without an end", x.run(form, 0, 0, 0, 0), 1);
            DUE.is("took", x.ran(1), 5000);
        }
    }

    private static void choicesCostNothing() {
        DUE.of("V: CHOICES cost nothing");
        ValueBench x = Stories.withBlocks(16);
        for (int b = 0; b < 15; b++) {
            x.ends(b, 2, 9, 0, b + 1);
        }
        for (int n = 0; n < 10; n++) {
            x.put(15, 0, n, n, 0);
        }
        DUE.is("CHOICES of the ENTRY", x.about(0, 4), 10);
        for (int form = 0; form <= 1; form++) {
            takes(x, form, 26, 0);
        }
        // CONST 0 goes.
        takes(x, 2, 25, 0);
    }

    private static void choicesAllAtOnce() {
        DUE.of("V: .. and are taken all at once as a BLOCK begins");
        for (int turn : new int[] {1, 6}) {
            ValueBench x = goingRound(turn);
            DUE.is("CHOICES", x.about(1, 4), 9);
            for (int n = 1; n <= 8; n++) {
                for (int form = 0; form <= 2; form++) {
                    DUE.is("run", x.run(form, n, 0, 0, 0), 0);
                    for (int v = 0; v < 7; v++) {
                        DUE.is("VARIABLE " + v + " behind " + n, x.emitted(v),
                                70 + (v + n * turn) % 7);
                    }
                }
            }
        }
    }

    /** INPUT 0 times, each of VARIABLES 0 to 6 takes what the one turn places on had. */
    private static ValueBench goingRound(int turn) {
        ValueBench x = Stories.withBlocks(3);
        for (int v = 0; v < 7; v++) {
            x.put(0, 0, v, 70 + v, 0);
            x.put(2, 14, v, 0, 0);
        }
        x.put(0, 1, 8, 0, 0);
        x.put(0, 0, 9, 1, 0);
        x.ends(0, 1, 0, 1, 0);
        x.put(1, 4, 8, 8, 9);
        x.put(1, 2, 7, 0, 0);
        for (int i = 0; i < 7; i++) {
            int v = i * turn % 7;
            x.put(1, 2, v, i == 6 ? 7 : (v + turn) % 7, 0);
        }
        x.ends(1, 2, 8, 1, 2);
        return x;
    }

    private static void ranAheadOfAny() {
        DUE.of("18: 0 ahead of any");
        ValueBench x = new ValueBench();
        ValueBench y = Stories.withBlocks(3);
        y.put(0, 0, 0, 7, 0);
        y.put(0, 14, 0, 0, 0);
        y.run(3, 0, 0, 0, 0);
        x.run(0, 0, 0, 0, 0);
        for (int what : NUMBERS) {
            DUE.is("ran " + what + " of nothing", x.ran(what), 0);
            DUE.is("ran " + what, y.ran(what), 0);
            DUE.is("emitted " + what, y.emitted(what), 0);
        }
    }

    /** Runs to RETURN 7 in BLOCK 2 with 5 FUEL and one number. */
    private static ValueBench hasRun() {
        ValueBench x = Stories.withBlocks(3);
        x.put(0, 0, 4, 7, 0);
        x.put(0, 14, 4, 0, 0);
        x.ends(0, 1, 0, 2, 0);
        x.put(2, 0, 5, 8, 0);
        x.ends(2, 0, 4, 0, 0);
        x.run(0, 0, 0, 0, 0);
        return x;
    }

    private static void ranWhat() {
        DUE.of("18: 0 .. for another what");
        int[] due = {7, 5, 1, 2};
        ValueBench x = hasRun();
        for (int what : NUMBERS) {
            DUE.is("ran " + what, x.ran(what), in(what, 0, 3) ? due[what] : 0);
        }
    }

    private static void ranIfOut() {
        DUE.of("18: 0: what it RETURNED (0 if OUT)");
        ValueBench x = hasRun();
        x.fuel(4);
        DUE.is("run", x.run(1, 0, 0, 0, 0), 1);
        DUE.is("returned", x.ran(0), 0);
        DUE.is("took", x.ran(1), 4);
        DUE.is("numbers", x.ran(2), 1);
        DUE.is("where", x.ran(3), 2);
        x.fuel(5);
        DUE.is("run", x.run(1, 0, 0, 0, 0), 0);
        DUE.is("returned", x.ran(0), 7);
        int[] numbers = {-1, LEAST, MOST, 0};
        for (int n : numbers) {
            ValueBench y = Stories.withBlocks(1);
            y.put(0, 0, 0, n, 0);
            y.run(2, 0, 0, 0, 0);
            DUE.is("returned", y.ran(0), n);
        }
    }

    private static void ranLatest() {
        DUE.of("18: Of the latest run() that was not NONE");
        ValueBench x = hasRun();
        int[] due = {7, 5, 1, 2};
        x.run(3, 1, 1, 1, 1);
        x.run(-1, 1, 1, 1, 1);
        x.fuel(3);
        x.put(0, 0, 0, 1, 0);
        x.ends(0, 0, 0, 0, 0);
        x.block();
        x.count(3);
        x.clear();
        x.run(0, 1, 1, 1, 1);
        for (int what = 0; what <= 3; what++) {
            DUE.is("ran " + what, x.ran(what), due[what]);
        }
        DUE.is("emitted 0", x.emitted(0), 7);
        x.block();
        DUE.is("one of another program", x.run(0, 0, 0, 0, 0), 0);
        int[] now = {0, 1, 0, 0};
        for (int what = 0; what <= 3; what++) {
            DUE.is("ran " + what, x.ran(what), now[what]);
        }
        DUE.is("emitted 0", x.emitted(0), 0);
    }

    private static void ranWhere() {
        DUE.of("18: 3: the BLOCK where it ended");
        ValueBench x = Stories.withBlocks(16);
        for (int b = 0; b < 16; b++) {
            x.ends(b, 1, 0, (b + 15) % 16, 0);
        }
        // 0, 15, 14, .. 1, 0, ..: none of them returns; the END takes the FUEL, and moves on.
        for (int f = 1; f <= 20; f++) {
            x.fuel(f);
            DUE.is("run", x.run(f % 3, 0, 0, 0, 0), 1);
            DUE.is("OUT of FUEL " + f, x.ran(3), Math.floorMod(-f, 16));
        }
        x.fuel(1000);
        for (int b = 0; b < 16; b++) {
            x.ends(b, 0, 0, 0, 0);
            DUE.is("run", x.run(b % 3, 0, 0, 0, 0), 0);
            DUE.is("RETURN in " + b, x.ran(3), b);
            x.ends(b, 1, 0, (b + 15) % 16, 0);
        }
    }

    /** Emits 1, 2, .. up to INPUT 0, which is 1 at least. */
    private static ValueBench upTo() {
        ValueBench x = Stories.withBlocks(2);
        x.put(0, 0, 1, 1, 0);
        x.put(0, 3, 0, 0, 1);
        x.put(0, 14, 0, 0, 0);
        x.put(0, 1, 2, 0, 0);
        x.put(0, 10, 3, 0, 2);
        x.ends(0, 2, 3, 0, 1);
        return x;
    }

    private static void keptFirstSixty() {
        DUE.of("V, 19: What EMIT tells comes behind one another; the first 60 are kept");
        for (int last : new int[] {1, 2, 58, 59, 60, 61, 62, 120, 128, 150}) {
            for (int form = 0; form <= 2; form++) {
                ValueBench x = upTo();
                DUE.is("run", x.run(form, last, 0, 0, 0), 0);
                DUE.is("numbers EMITTED", x.ran(2), last);
                for (int i : NUMBERS) {
                    boolean kept = in(i, 0, Math.min(last, 60) - 1);
                    DUE.is("emitted " + i + " of " + last, x.emitted(i), kept ? i + 1 : 0);
                }
            }
        }
        ValueBench x = Stories.withBlocks(1);
        x.put(0, 0, 0, -3, 0);
        for (int n = 0; n < 99; n++) {
            x.put(0, 14, 0, 0, 0);
        }
        x.run(2, 0, 0, 0, 0);
        DUE.is("99 EMITS", x.ran(2), 99);
        DUE.is("the last kept", x.emitted(59), -3);
        DUE.is("the first not kept", x.emitted(60), 0);
    }

    private static void emittedOfThatRunAlone() {
        DUE.of("19: The i-th number that run EMITTED .. ; 0");
        ValueBench x = upTo();
        x.run(0, 70, 0, 0, 0);
        DUE.is("emitted 59 of 70", x.emitted(59), 60);
        x.run(1, 3, 0, 0, 0);
        for (int i = -1; i <= 61; i++) {
            DUE.is("emitted " + i, x.emitted(i), in(i, 0, 2) ? i + 1 : 0);
        }
        x.run(9, 3, 0, 0, 0);
        DUE.is("behind NONE", x.emitted(2), 3);
        x.fuel(2);
        x.run(2, 3, 0, 0, 0);
        DUE.is("OUT ahead of the first", x.emitted(0), 0);
    }

    private static void emittedUntilOut() {
        DUE.of("19: .. of those kept, of a RUN that is OUT, too");
        ValueBench x = upTo();
        for (int f = 1; f <= 14; f++) {
            x.fuel(f);
            DUE.is("run", x.run(0, 100, 0, 0, 0), 1);
            // The third of each six tells.
            int told = (f + 3) / 6;
            DUE.is("numbers with FUEL " + f, x.ran(2), told);
            for (int i = 0; i <= 3; i++) {
                DUE.is("emitted " + i + " with FUEL " + f, x.emitted(i), i < told ? i + 1 : 0);
            }
        }
        x.fuel(5000);
        DUE.is("without an end", x.run(2, MOST, 0, 0, 0), 1);
        DUE.is("numbers", x.ran(2), 833);
        DUE.is("the last kept", x.emitted(59), 60);
        DUE.is("one behind", x.emitted(60), 0);
    }

    private static void countWhat() {
        DUE.of("20: NONE for another what");
        ValueBench x = Stories.withBlocks(3);
        ValueBench none = new ValueBench();
        int[] due = {3, 0, 1, 1, 1, 0, 0};
        for (int what : NUMBERS) {
            DUE.is("count " + what, x.count(what), in(what, 0, 6) ? due[what] : NONE);
            DUE.is("count " + what + " of nothing", none.count(what), in(what, 0, 6) ? 0 : NONE);
        }
    }

    private static void countsFromNoneToAll() {
        DUE.of("20: BLOCKS, INSTRUCTIONS told, REACHED ones, VALUES, CLASSES, REDUNDANT, CHOICES");
        // Of CONST 0 alone, the CHOICES of a BLOCK make two CLASSES: of the VARIABLES that are
        // given in the BLOCK ahead of it, and of those given in the one ahead of that.
        int[][] due = {{16, 100, 16, 261, 33, 100 + 16 * 8, 160}, {16, 100, 16, 261, 261, 0, 160}};
        for (int apart = 0; apart <= 1; apart++) {
            ValueBench x = new ValueBench();
            Stories.fullOfConsts(x, apart);
            for (int what = 0; what <= 6; what++) {
                DUE.is("count " + what + " of all", x.count(what), due[apart][what]);
            }
        }
        ValueBench y = Stories.withBlocks(1);
        for (int n = 0; n < 100; n++) {
            DUE.is("INSTRUCTIONS", y.count(1), n);
            DUE.is("VALUES", y.count(3), n + 1);
            DUE.is("CLASSES", y.count(4), n == 0 ? 1 : 2);
            DUE.is("REDUNDANT", y.count(5), Math.max(0, n - 1));
            y.put(0, 0, 0, 5, 0);
        }
    }
}
