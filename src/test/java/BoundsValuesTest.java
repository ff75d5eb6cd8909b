import java.util.function.Consumer;

/** Promises 10 to 15: each sentence that names a bound, and each question without an answer. */
public final class BoundsValuesTest {
    private static final Due DUE = new Due("BoundsValuesTest");
    private static final int NONE = ValueBench.NONE;
    private static final int LEAST = Stories.LEAST;
    private static final int MOST = Stories.MOST;
    private static final int[] NUMBERS = {LEAST, -261, -256, -32, -17, -16, -2, -1, 0, 1, 2, 3, 4,
        5, 6, 7, 8, 15, 16, 17, 18, 32, 100, 101, 160, 161, 255, 256, 259, 260, 261, 262, 512,
        65536, MOST};

    public static void main(String[] args) {
        valuesFromNoneToAll();
        valueWhat();
        kinds();
        zero();
        numbersOfConst();
        numbersOfInput();
        variables();
        blocksOfValues();
        operandCounts();
        operandPlaces();
        zeroBehindTheWays();
        allOperands();
        ledPlaces();
        ledOfRedundant();
        classOfNone();
        classIsTheLeast();
        classesApart();
        redundantChoices();
        redundantByPlace();
        leadersAtTheEndsOfWays();
        readOfNone();
        readOfJump();
        readVariables();
        emitsFromNoneToAll();
        emitsOfNone();
        emitsByPlace();
        DUE.end();
    }

    private static boolean in(int n, int low, int high) {
        return n >= low && n <= high;
    }

    private static ValueBench told(Consumer<ValueBench> story) {
        ValueBench x = new ValueBench();
        story.accept(x);
        return x;
    }

    /** One BLOCK with this many CONSTS. */
    private static ValueBench consts(int many) {
        ValueBench x = Stories.withBlocks(1);
        for (int n = 0; n < many; n++) {
            x.put(0, 0, n % 10, 500 + n, 0);
        }
        return x;
    }

    private static void valuesFromNoneToAll() {
        DUE.of("10: NONE if there is none such");
        ValueBench[] rows = {new ValueBench(), consts(0), consts(1), consts(99), consts(100),
            told(Stories::full)};
        int[] sizes = {0, 1, 2, 100, 101, 261};
        for (int r = 0; r < rows.length; r++) {
            DUE.is("VALUES", rows[r].count(3), sizes[r]);
            for (int v : NUMBERS) {
                boolean there = in(v, 0, sizes[r] - 1);
                for (int what = 0; what <= 6; what++) {
                    int got = rows[r].value(v, what);
                    // A VARIABLE, a number may be NONE in one that there is; the others never.
                    if (!there || what == 0 || what == 1 || what >= 3 && what <= 5) {
                        DUE.is("value " + v + " " + what + " of " + sizes[r], got != NONE, there);
                    }
                }
            }
        }
        ValueBench full = told(Stories::full);
        int[] last = {0, 15, 5, 260, 0, 0, 195};
        for (int what = 0; what <= 6; what++) {
            DUE.is("the last of all, " + what, full.value(260, what), last[what]);
        }
    }

    private static void valueWhat() {
        DUE.of("10: NONE for another what");
        ValueBench x = consts(1);
        int[] zero = {0, 0, NONE, 0, 0, 0, 0};
        int[] one = {0, 0, 0, 1, 0, 0, 500};
        for (int what : NUMBERS) {
            boolean known = in(what, 0, 6);
            DUE.is("value 0 " + what, x.value(0, what), known ? zero[what] : NONE);
            DUE.is("value 1 " + what, x.value(1, what), known ? one[what] : NONE);
            DUE.is("value 2 " + what, x.value(2, what), NONE);
        }
    }

    private static void kinds() {
        DUE.of("10: 0: kind (0 CONST and ZERO, 1 INPUT, 3 to 13, 15 CHOICE)");
        ValueBench x = Stories.withBlocks(2);
        x.ends(0, 1, 0, 1, 0);
        x.ends(1, 1, 0, 1, 0);
        for (int kind = 0; kind <= 14; kind++) {
            x.put(1, kind, 0, 0, 0);
        }
        int[] due = {0, 15, 0, 1, 3, 4, 5, 6, 7, 8, 9, 10, 11, 12, 13, NONE};
        for (int v = 0; v < due.length; v++) {
            DUE.is("kind of " + v, x.value(v, 0), due[v]);
        }
    }

    private static void zero() {
        DUE.of("II: 0 is ZERO (of the ENTRY, ahead of all)");
        ValueBench[] rows = {consts(0), consts(100), told(Stories::some), told(Stories::full)};
        int[] due = {0, 0, NONE, 0, 0, 0, 0};
        for (ValueBench x : rows) {
            for (int what = 0; what <= 6; what++) {
                DUE.is("ZERO, " + what, x.value(0, what), due[what]);
            }
            DUE.is("its OPERANDS", x.operand(0, 0), NONE);
            DUE.is("in LED", x.led(0, 0), NONE);
        }
    }

    private static void numbersOfConst() {
        DUE.of("10: 6: n of CONST (n may be -1, too)");
        ValueBench x = Stories.withBlocks(1);
        int[] numbers = {-1, 0, 1, LEAST, LEAST + 1, MOST, MOST - 1, -2, 65536, 1 << 16 | 3};
        for (int i = 0; i < numbers.length; i++) {
            x.put(0, 0, i, numbers[i], -1);
        }
        for (int i = 0; i < numbers.length; i++) {
            DUE.is("n", x.value(1 + i, 6), numbers[i]);
            // What has the number 0 stands with ZERO; no two others are the same.
            DUE.is("its CLASS", x.classOf(1 + i), numbers[i] == 0 ? 0 : 1 + i);
        }
    }

    private static void numbersOfInput() {
        DUE.of("10: 6: k of INPUT, else NONE");
        ValueBench x = Stories.withBlocks(1);
        for (int k = 0; k <= 3; k++) {
            x.put(0, 1, 9 - k, k, 77);
        }
        for (int kind = 3; kind <= 13; kind++) {
            x.put(0, kind, 5, 5, 6);
        }
        for (int k = 0; k <= 3; k++) {
            DUE.is("k", x.value(1 + k, 6), k);
        }
        for (int kind = 3; kind <= 13; kind++) {
            DUE.is("of kind " + kind, x.value(kind + 2, 6), NONE);
        }
        ValueBench y = Stories.withBlocks(1);
        y.ends(0, 1, 0, 0, 0);
        for (int v = 1; v <= 10; v++) {
            DUE.is("of a CHOICE", y.value(v, 6), NONE);
        }
    }

    private static void variables() {
        DUE.of("10: 2: the VARIABLE it gives (NONE of ZERO)");
        ValueBench x = Stories.withBlocks(1);
        x.ends(0, 1, 0, 0, 0);
        for (int v = 9; v >= 0; v--) {
            x.put(0, 3, v, v, v);
        }
        DUE.is("of ZERO", x.value(0, 2), NONE);
        for (int v = 0; v <= 9; v++) {
            DUE.is("of a CHOICE", x.value(1 + v, 2), v);
            DUE.is("of an ADD", x.value(11 + v, 2), 9 - v);
        }
    }

    private static void blocksOfValues() {
        DUE.of("II: BLOCK by BLOCK (those REACHED, by numbers) its CHOICES by VARIABLES, then ..");
        int v = 1;
        for (int b = 0; b < 16; b++) {
            ValueBench x = told(Stories::full);
            for (int i = 0; i < 10; i++) {
                DUE.is("a CHOICE", x.value(v, 0), 15);
                DUE.is("its VARIABLE", x.value(v, 2), i);
                DUE.is("its BLOCK", x.value(v, 1), b);
                v++;
            }
            // Those put at b are b, b + 16, .. in order.
            for (int i = b; i < 100; i += 16) {
                DUE.is("n", x.value(v, 6), 100 + i);
                DUE.is("its BLOCK", x.value(v, 1), b);
                v++;
            }
        }
        DUE.is("that is all", v, 261);
        ValueBench y = Stories.withBlocks(16);
        for (int b = 0; b < 16; b++) {
            y.put(b, 0, 0, b, 0);
        }
        y.ends(0, 1, 0, 15, 0);
        y.ends(15, 1, 0, 8, 0);
        DUE.is("REACHED ones alone", y.count(3), 4);
        DUE.is("first the ENTRY", y.value(1, 1), 0);
        DUE.is("then 8", y.value(2, 1), 8);
        DUE.is("then 15", y.value(3, 1), 15);
    }

    /** Each BLOCK but the last tells the one told and the next one; the last tells it alone. */
    private static ValueBench allTell(int told) {
        ValueBench x = Stories.withBlocks(16);
        for (int b = 0; b < 16; b++) {
            x.ends(b, 2, 0, told, b == 15 ? told : b + 1);
        }
        return x;
    }

    private static void operandCounts() {
        DUE.of("10: 5: how many OPERANDS");
        ValueBench x = Stories.withBlocks(1);
        for (int kind = 0; kind <= 13; kind++) {
            x.put(0, kind, 0, 0, 0);
        }
        DUE.is("of ZERO", x.value(0, 5), 0);
        DUE.is("of CONST", x.value(1, 5), 0);
        DUE.is("of INPUT", x.value(2, 5), 0);
        for (int v = 3; v <= 13; v++) {
            DUE.is("of kind " + x.value(v, 0), x.value(v, 5), 2);
        }
        ValueBench one = allTell(1);
        one.put(1, 1, 7, 0, 0);
        DUE.is("of a CHOICE for 16 ways", one.value(1, 5), 16);
        ValueBench entry = allTell(0);
        DUE.is("of the ENTRY's for 16 ways", entry.value(1, 5), 17);
        entry.ends(0, 1, 0, 0, 0);
        DUE.is("of the ENTRY's for one way", entry.value(1, 5), 2);
    }

    private static void operandPlaces() {
        DUE.of("11: The i-th OPERAND of VALUE v; NONE");
        ValueBench one = allTell(1);
        for (int b = 0; b < 16; b++) {
            one.put(b, 1, 7, 0, 0);
        }
        // VALUES: 1 INPUT of the ENTRY, 2 CHOICE of 1, 3 INPUT of 1, and so on.
        for (int i : NUMBERS) {
            DUE.is("of a CHOICE, " + i, one.operand(2, i),
                    i == 0 ? 1 : in(i, 1, 15) ? i + 2 : NONE);
            DUE.is("of INPUT, " + i, one.operand(3, i), NONE);
            DUE.is("of ZERO, " + i, one.operand(0, i), NONE);
        }
        ValueBench x = Stories.withBlocks(1);
        x.put(0, 1, 0, 0, 0);
        x.put(0, 4, 1, 0, 9);
        for (int i : NUMBERS) {
            DUE.is("of SUB, " + i, x.operand(2, i), i == 0 ? 1 : i == 1 ? 0 : NONE);
            DUE.is("of VALUE " + i, x.operand(i, 0), i == 2 ? 1 : NONE);
            DUE.is("of VALUE " + i + " in LED", x.led(i, 0), i == 2 ? 1 : NONE);
        }
        ValueBench none = new ValueBench();
        ValueBench full = told(Stories::full);
        for (int v : NUMBERS) {
            DUE.is("of VALUE " + v + " of nothing", none.operand(v, 0), NONE);
            // The CHOICES stand at the first ten places of each BLOCK.
            DUE.is("of VALUE " + v + " of all", full.operand(v, 0) != NONE,
                    full.value(v, 0) == 15);
        }
    }

    private static void zeroBehindTheWays() {
        DUE.of("II: of one in the ENTRY, ZERO behind these");
        ValueBench x = allTell(0);
        for (int b = 0; b < 16; b++) {
            x.put(b, 1, 7, 0, 0);
        }
        // VALUES: 1 to 10 CHOICES of the ENTRY, 11 its INPUT, 12 that of 1, and so on.
        for (int i : NUMBERS) {
            int due = in(i, 0, 15) ? 11 + i : i == 16 ? 0 : NONE;
            DUE.is("operand 8 " + i, x.operand(8, i), due);
            // All INPUTS behind the first are REDUNDANT.
            DUE.is("led 8 " + i, x.led(8, i), in(i, 0, 15) ? 11 : due);
            DUE.is("operand 1 " + i, x.operand(1, i), in(i, 0, 15) ? 1 : due);
            DUE.is("led 1 " + i, x.led(1, i), in(i, 0, 15) ? 1 : due);
        }
    }

    private static void allOperands() {
        DUE.of("II: OPERANDS, as many as there can be");
        ValueBench x = new ValueBench();
        for (int b = 0; b < 16; b++) {
            x.block();
        }
        for (int b = 0; b < 16; b++) {
            x.ends(b, 2, 9, (b + 1) % 16, (b + 2) % 16);
        }
        for (int i = 0; i < 100; i++) {
            x.put(i % 16, 3 + i % 11, i % 10, i % 10, i % 10);
        }
        int all = 0;
        for (int v = 0; v < 261; v++) {
            all += x.value(v, 5);
        }
        DUE.is("in all", all, 200 + 16 * 10 * 2 + 10);
        // 95 is the last at 15: it gives VARIABLE 5 of what it was there.
        DUE.is("its kind", x.value(260, 0), 3 + 95 % 11);
        DUE.is("its y", x.operand(260, 0), x.operand(260, 1));
        DUE.is("its y in LED", x.led(260, 0) != NONE, true);
        DUE.is("one behind", x.operand(260, 2), NONE);
    }

    private static void ledPlaces() {
        DUE.of("12: The i-th OPERAND of VALUE v in LED; NONE");
        ValueBench x = Stories.withBlocks(1);
        x.put(0, 1, 0, 2, 0);
        x.put(0, 1, 1, 2, 0);
        x.put(0, 4, 2, 1, 9);
        for (int i : NUMBERS) {
            DUE.is("led 3 " + i, x.led(3, i), i == 0 ? 1 : i == 1 ? 0 : NONE);
            DUE.is("led 1 " + i, x.led(1, i), NONE);
            DUE.is("led 0 " + i, x.led(0, i), NONE);
            DUE.is("led " + i + " 0", x.led(i, 0), i == 3 ? 1 : NONE);
        }
        ValueBench none = new ValueBench();
        for (int v : NUMBERS) {
            DUE.is("led " + v + " of nothing", none.led(v, 0), NONE);
        }
    }

    private static void ledOfRedundant() {
        DUE.of("12: NONE, also if it is REDUNDANT");
        ValueBench x = Stories.withBlocks(2);
        x.put(0, 1, 0, 0, 0);
        x.put(0, 3, 1, 0, 9);
        x.put(0, 3, 2, 9, 0);
        x.put(1, 3, 3, 0, 9);
        x.ends(0, 1, 0, 1, 0);
        x.ends(1, 1, 0, 0, 0);
        // Behind ZERO and ten CHOICES: 11 INPUT, 12 ADD, 13 ADD crosswise, 14 ADD of BLOCK 1.
        for (int v = 13; v <= 14; v++) {
            DUE.is("REDUNDANT " + v, x.value(v, 4), 1);
            for (int i = -1; i <= 2; i++) {
                DUE.is("led " + v + " " + i, x.led(v, i), NONE);
            }
            DUE.is("VALUED has it still", x.operand(v, 0) != NONE, true);
        }
        DUE.is("not REDUNDANT", x.value(12, 4), 0);
        DUE.is("led 12 0", x.led(12, 0), 11);
        // CHOICES of VARIABLES that are never given are the same, but for the first.
        DUE.is("the first CHOICE of them", x.led(5, 0) != NONE, true);
        DUE.is("a later one", x.led(6, 0), NONE);
        DUE.is("its ZERO", x.led(6, 1), NONE);
    }

    private static void classOfNone() {
        DUE.of("13: NONE");
        ValueBench[] rows = {new ValueBench(), consts(0), consts(100), told(Stories::full)};
        int[] sizes = {0, 1, 101, 261};
        for (int r = 0; r < rows.length; r++) {
            for (int v : NUMBERS) {
                boolean there = in(v, 0, sizes[r] - 1);
                DUE.is("classOf " + v + " of " + sizes[r], rows[r].classOf(v) != NONE, there);
                DUE.is("value " + v + " 3", rows[r].value(v, 3), rows[r].classOf(v));
            }
        }
    }

    private static void classIsTheLeast() {
        DUE.of("13: The CLASS of VALUE v: its least VALUE");
        ValueBench x = Stories.withBlocks(16);
        // 15 stands ahead of all but the ENTRY, and has the greatest numbers.
        x.ends(0, 1, 0, 15, 0);
        for (int b = 15; b > 1; b--) {
            x.ends(b, 1, 0, b - 1, 0);
        }
        for (int b = 1; b < 16; b++) {
            x.put(b, 1, b % 10, 3, 0);
        }
        for (int v = 1; v <= 15; v++) {
            DUE.is("classOf " + v, x.classOf(v), 1);
            DUE.is("REDUNDANT " + v, x.value(v, 4), v == 15 ? 0 : 1);
        }
        DUE.is("CLASSES", x.count(4), 2);
        for (int b = 0; b < 16; b++) {
            x.ends(b, 0, 0, 0, 0);
        }
        DUE.is("ZERO alone", x.count(3), 1);
        ValueBench same = Stories.withBlocks(1);
        for (int n = 0; n < 100; n++) {
            same.put(0, 0, n % 10, 0, 0);
        }
        for (int v = 0; v <= 100; v++) {
            DUE.is("all with ZERO", same.classOf(v), 0);
        }
        DUE.is("one CLASS", same.count(4), 1);
        DUE.is("all but ZERO are REDUNDANT", same.count(5), 100);
    }

    private static void classesApart() {
        DUE.of("III: what stands apart: other number, k, kind, OPERANDS; CHOICES of other BLOCKS");
        ValueBench x = Stories.withBlocks(1);
        x.put(0, 0, 0, 1, 0);
        x.put(0, 1, 1, 1, 0);
        x.put(0, 0, 2, -1, 0);
        x.put(0, 1, 3, 0, 0);
        x.put(0, 3, 4, 1, 3);
        x.put(0, 5, 5, 1, 3);
        x.put(0, 3, 6, 1, 1);
        x.put(0, 3, 7, 3, 3);
        x.put(0, 4, 8, 1, 3);
        x.put(0, 4, 9, 3, 1);
        for (int v = 0; v <= 10; v++) {
            DUE.is("classOf " + v, x.classOf(v), v);
        }
        // Two loops that do the same, one behind the other: the CHOICES are of two BLOCKS.
        ValueBench y = Stories.withBlocks(4);
        y.put(0, 0, 1, 1, 0);
        y.ends(0, 1, 0, 1, 0);
        y.put(1, 3, 0, 0, 1);
        y.ends(1, 2, 0, 1, 2);
        y.put(2, 3, 2, 2, 1);
        y.ends(2, 2, 2, 2, 3);
        // VALUES: 1 CONST, 2 CHOICE and 3 ADD of 1, 4 CHOICE and 5 ADD of 2.
        for (int v = 0; v <= 5; v++) {
            DUE.is("of two loops " + v, y.classOf(v), v);
        }
        DUE.is("CHOICES", y.count(6), 2);
    }

    private static void redundantChoices() {
        DUE.of("IV: of CHOICES of one BLOCK .. those behind the first of a CLASS are REDUNDANT");
        ValueBench x = Stories.withBlocks(1);
        x.ends(0, 1, 0, 0, 0);
        for (int v = 0; v <= 10; v++) {
            DUE.is("CHOICE " + v, x.value(v, 4), v >= 2 ? 1 : 0);
            DUE.is("its CLASS", x.classOf(v), v == 0 ? 0 : 1);
        }
        // VARIABLE 0 goes its own way, so the first of the others leads them.
        x.put(0, 1, 0, 0, 0);
        for (int v = 0; v <= 11; v++) {
            DUE.is("now " + v, x.value(v, 4), v >= 3 && v <= 10 ? 1 : 0);
        }
        DUE.is("REDUNDANT", x.count(5), 8);
    }

    private static void redundantByPlace() {
        DUE.of("IV: another one of its CLASS dominates its definition");
        ValueBench x = Stories.withBlocks(4);
        x.ends(0, 2, 9, 1, 2);
        x.ends(1, 1, 0, 3, 0);
        x.ends(2, 1, 0, 3, 0);
        for (int b = 1; b <= 3; b++) {
            x.put(b, 1, 0, 0, 0);
            x.put(b, 1, 1, 0, 0);
        }
        // VALUES: 1, 2 of BLOCK 1; 3, 4 of BLOCK 2; CHOICES 5, 6 of 3; 7, 8 of 3.
        int[] due = {0, 0, 1, 0, 1, 0, 1, 0, 1};
        for (int v = 0; v < due.length; v++) {
            DUE.is("REDUNDANT " + v, x.value(v, 4), due[v]);
        }
        x.put(0, 1, 0, 0, 0);
        // VALUE 1 of the ENTRY now leads them all; the CHOICES are as they were.
        int[] now = {0, 0, 1, 1, 1, 1, 0, 1, 1, 1};
        for (int v = 0; v < now.length; v++) {
            DUE.is("REDUNDANT now " + v, x.value(v, 4), now[v]);
        }
        DUE.is("led 6 0", x.led(6, 0), 1);
        DUE.is("led 6 1", x.led(6, 1), 1);
    }

    private static void leadersAtTheEndsOfWays() {
        DUE.of("IV: (of a CHOICE's OPERAND at the end of that PREDECESSOR)");
        ValueBench x = Stories.withBlocks(6);
        x.ends(0, 2, 9, 1, 2);
        x.ends(1, 1, 0, 3, 0);
        x.ends(2, 1, 0, 4, 0);
        x.ends(3, 1, 0, 5, 0);
        x.ends(4, 1, 0, 5, 0);
        // INPUT 0 stands in 1 and 3 on the one way, in 2 and 4 on the other, and in 5.
        for (int b = 1; b <= 5; b++) {
            x.put(b, 1, b <= 2 ? 1 : 0, 0, 0);
        }
        // VALUES: 1 of 1, 2 of 2, 3 of 3, 4 of 4; CHOICES 5, 6 of 5; 7 of 5.
        DUE.is("VALUES", x.count(3), 8);
        int[] redundant = {0, 0, 0, 1, 1, 0, 1, 0};
        for (int v = 0; v < redundant.length; v++) {
            DUE.is("REDUNDANT " + v, x.value(v, 4), redundant[v]);
        }
        DUE.is("operand 5 0", x.operand(5, 0), 3);
        DUE.is("operand 5 1", x.operand(5, 1), 4);
        DUE.is("led 5 0", x.led(5, 0), 1);
        DUE.is("led 5 1", x.led(5, 1), 2);
        // A BLOCK that goes round itself is its own PREDECESSOR, and its end is behind it all.
        ValueBench y = Stories.withBlocks(2);
        y.ends(0, 1, 0, 1, 0);
        y.put(1, 1, 0, 0, 0);
        y.put(1, 1, 1, 0, 0);
        y.ends(1, 1, 0, 1, 0);
        // VALUES: CHOICES 1, 2 of 1; INPUT 3, 4.
        DUE.is("CHOICES stand together", y.classOf(2), 1);
        DUE.is("operand 2 1", y.operand(2, 1), 4);
        DUE.is("led 1 0", y.led(1, 0), 0);
        DUE.is("led 1 1", y.led(1, 1), 3);
    }

    private static void readOfNone() {
        DUE.of("14: NONE .. if b is not REACHED");
        int[] sizes = {0, 1, 2, 15, 16};
        for (int blocks : sizes) {
            for (int led = 0; led <= 1; led++) {
                ValueBench x = Stories.withBlocks(blocks);
                x.ends(0, 2, 0, blocks - 1, 0);
                for (int b : NUMBERS) {
                    boolean there = blocks > 0 && (b == 0 || b == blocks - 1);
                    DUE.is("read " + b + " of " + blocks, x.read(b, led == 1) != NONE, there);
                }
            }
        }
        ValueBench x = Stories.withBlocks(2);
        x.ends(1, 2, 0, 1, 0);
        DUE.is("that tells itself", x.read(1, false), NONE);
        DUE.is("that tells itself, in LED", x.read(1, true), NONE);
    }

    private static void readOfJump() {
        DUE.of("14: NONE of JUMP");
        ValueBench x = Stories.withBlocks(2);
        x.put(0, 1, 3, 0, 0);
        for (int led = 0; led <= 1; led++) {
            x.ends(0, 0, 3, 1, 1);
            DUE.is("RETURN", x.read(0, led == 1), 1);
            x.ends(0, 1, 3, 1, 1);
            DUE.is("JUMP", x.read(0, led == 1), NONE);
            x.ends(0, 2, 3, 1, 1);
            DUE.is("BRANCH", x.read(0, led == 1), 1);
            x.ends(0, 1, 3, 15, 0);
            DUE.is("JUMP to none", x.read(0, led == 1), 0);
        }
    }

    private static void readVariables() {
        DUE.of("14: The VALUE that the END of BLOCK b reads (RETURN, BRANCH), in LED or not");
        ValueBench x = Stories.withBlocks(2);
        for (int v = 0; v <= 9; v++) {
            x.put(0, 1, v, v % 4, 0);
        }
        x.ends(0, 1, 0, 1, 0);
        for (int v = 0; v <= 9; v++) {
            for (int how = 0; how <= 2; how += 2) {
                x.ends(1, how, v, 1, 1);
                DUE.is("reads " + v, x.read(1, false), 1 + v);
                DUE.is("reads " + v + " in LED", x.read(1, true), 1 + v % 4);
            }
        }
    }

    private static void emitsFromNoneToAll() {
        DUE.of("15: The VALUE that the i-th EMIT of BLOCK b reads likewise");
        ValueBench x = Stories.withBlocks(2);
        x.ends(0, 1, 0, 1, 0);
        x.put(0, 1, 1, 0, 0);
        for (int n = 0; n < 99; n++) {
            DUE.is("not yet " + n, x.emits(1, n, false), NONE);
            x.put(1, 14, n % 2, 0, 0);
        }
        for (int i : NUMBERS) {
            int due = in(i, 0, 98) ? i % 2 : NONE;
            DUE.is("emits 1 " + i, x.emits(1, i, false), due);
            DUE.is("emits 1 " + i + " in LED", x.emits(1, i, true), due);
            DUE.is("emits 0 " + i, x.emits(0, i, false), NONE);
        }
        DUE.is("the last", x.emits(1, 98, true), 0);
        DUE.is("one behind", x.emits(1, 99, true), NONE);
    }

    private static void emitsOfNone() {
        DUE.of("15: NONE");
        int[] sizes = {0, 1, 2, 15, 16};
        for (int blocks : sizes) {
            ValueBench x = Stories.withBlocks(blocks);
            x.ends(0, 1, 0, blocks - 1, 0);
            for (int b = 0; b < blocks; b++) {
                x.put(b, 14, 0, 0, 0);
            }
            for (int b : NUMBERS) {
                boolean there = blocks > 0 && (b == 0 || b == blocks - 1);
                int due = !there ? NONE : x.about(0, 4) > 0 ? 1 : 0;
                DUE.is("emits " + b + " 0 of " + blocks, x.emits(b, 0, false), due);
                DUE.is("emits " + b + " 0 in LED", x.emits(b, 0, true), due);
                DUE.is("emits " + b + " 1", x.emits(b, 1, false), NONE);
                DUE.is("emits " + b + " -1", x.emits(b, -1, false), NONE);
            }
        }
    }

    private static void emitsByPlace() {
        DUE.of("15: .. at its own place, not at another one's");
        ValueBench x = Stories.withBlocks(1);
        x.put(0, 14, 0, 0, 0);
        x.put(0, 1, 0, 0, 0);
        x.put(0, 14, 0, 0, 0);
        x.put(0, 1, 0, 0, 0);
        x.put(0, 14, 0, 0, 0);
        x.put(0, 2, 0, 9, 0);
        x.put(0, 14, 0, 0, 0);
        int[] valued = {0, 1, 2, 0, NONE};
        int[] led = {0, 1, 1, 0, NONE};
        for (int i = 0; i < valued.length; i++) {
            DUE.is("emits 0 " + i, x.emits(0, i, false), valued[i]);
            DUE.is("emits 0 " + i + " in LED", x.emits(0, i, true), led[i]);
        }
    }
}
