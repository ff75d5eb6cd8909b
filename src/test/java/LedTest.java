/** Promises 12 to 15: classOf, led, and what read and emits answer in LED. */
public final class LedTest {
    private static final Due DUE = new Due("LedTest");
    private static final int NONE = ValueBench.NONE;

    public static void main(String[] args) {
        evenOnes();
        numbersAndInputs();
        loopsThatGoAlike(5, true);
        loopsThatGoAlike(6, false);
        choicesOfOneBlock();
        choicesOfOtherBlocks();
        swappedChoices();
        entryChoices();
        leaderWithAGreaterNumber();
        armsThatDoNotLead();
        operandsOfChoices();
        longChainParts();
        DUE.end();
    }

    private static void classesAre(ValueBench x, int... due) {
        for (int v = 0; v < due.length; v++) {
            DUE.is("classOf " + v, x.classOf(v), due[v]);
            DUE.is("value " + v + " 3", x.value(v, 3), due[v]);
        }
        DUE.is("classOf behind all", x.classOf(due.length), NONE);
    }

    private static void redundantAre(ValueBench x, int... due) {
        int all = 0;
        for (int v = 0; v < due.length; v++) {
            DUE.is("REDUNDANT " + v, x.value(v, 4), due[v]);
            all += due[v];
            for (int i = 0; i < x.value(v, 5) && due[v] == 1; i++) {
                DUE.is("led of REDUNDANT " + v, x.led(v, i), NONE);
            }
        }
        DUE.is("REDUNDANT ones", x.count(5), all);
    }

    private static void evenOnes() {
        boolean[] even = {true, false, true, true, true, true, true, false, false, false, false};
        for (int kind = 3; kind <= 13; kind++) {
            ValueBench x = new ValueBench();
            x.block();
            x.put(0, 1, 0, 0, 0);
            x.put(0, 1, 1, 1, 0);
            x.put(0, kind, 2, 0, 1);
            x.put(0, kind, 3, 1, 0);
            x.put(0, kind, 4, 0, 1);
            x.put(0, kind, 5, 0, 0);
            x.put(0, kind, 6, 1, 1);
            x.put(0, 4, 7, 3, 4);
            x.ends(0, 0, 4, 0, 0);
            int crosswise = even[kind - 3] ? 3 : 4;
            classesAre(x, 0, 1, 2, 3, crosswise, 3, 6, 7, 8);
            redundantAre(x, 0, 0, 0, 0, crosswise == 3 ? 1 : 0, 1, 0, 0, 0);
            DUE.is("led 8 0 of " + kind, x.led(8, 0), crosswise);
            DUE.is("led 8 1 of " + kind, x.led(8, 1), 3);
            DUE.is("read of " + kind, x.read(0, true), 3);
            DUE.is("read of " + kind + " in VALUED", x.read(0, false), 5);
        }
    }

    private static void numbersAndInputs() {
        ValueBench x = new ValueBench();
        x.block();
        x.put(0, 0, 0, 0, 0);
        x.put(0, 0, 1, 1, 0);
        x.put(0, 1, 2, 0, 0);
        x.put(0, 1, 3, 1, 0);
        x.put(0, 0, 4, 1, 0);
        x.put(0, 1, 5, 1, 0);
        x.put(0, 14, 0, 0, 0);
        x.put(0, 14, 4, 0, 0);
        x.put(0, 14, 5, 0, 0);
        // CONST 0 stands with ZERO; CONST 1 does not stand with INPUT 1.
        classesAre(x, 0, 0, 2, 3, 4, 2, 4);
        redundantAre(x, 0, 1, 0, 0, 0, 1, 1);
        int[] valued = {1, 5, 6};
        int[] led = {0, 2, 4};
        for (int i = 0; i < 3; i++) {
            DUE.is("emits " + i, x.emits(0, i, false), valued[i]);
            DUE.is("emits " + i + " in LED", x.emits(0, i, true), led[i]);
        }
        DUE.is("emits 3 in LED", x.emits(0, 3, true), NONE);
        DUE.is("CLASSES", x.count(4), 4);
    }

    /** Two VARIABLES count down alike: they stand together if they begin alike. */
    private static void loopsThatGoAlike(int second, boolean alike) {
        ValueBench x = new ValueBench();
        for (int b = 0; b < 4; b++) {
            x.block();
        }
        x.put(0, 0, 0, 5, 0);
        x.put(0, 0, 1, second, 0);
        x.put(0, 0, 2, 1, 0);
        x.ends(0, 1, 0, 1, 0);
        x.ends(1, 2, 0, 2, 3);
        x.put(2, 4, 0, 0, 2);
        x.put(2, 4, 1, 1, 2);
        x.ends(2, 1, 0, 1, 0);
        x.ends(3, 0, 1, 0, 0);
        if (alike) {
            classesAre(x, 0, 1, 1, 3, 4, 4, 6, 6);
            redundantAre(x, 0, 0, 1, 0, 0, 1, 0, 1);
        } else {
            classesAre(x, 0, 1, 2, 3, 4, 5, 6, 7);
            redundantAre(x, 0, 0, 0, 0, 0, 0, 0, 0);
        }
        DUE.is("read 3", x.read(3, false), 5);
        DUE.is("read 3 in LED", x.read(3, true), alike ? 4 : 5);
        DUE.is("led 4 0", x.led(4, 0), 1);
        DUE.is("led 4 1", x.led(4, 1), 6);
        DUE.is("led 5 0", x.led(5, 0), alike ? NONE : 2);
        DUE.is("read 0 in LED", x.read(0, true), NONE);
        for (int form = 0; form <= 2; form++) {
            DUE.is("run", x.run(form, 0, 0, 0, 0), 0);
            DUE.is("returned", x.ran(0), second - 5);
        }
    }

    private static void choicesOfOneBlock() {
        ValueBench x = new ValueBench();
        for (int b = 0; b < 4; b++) {
            x.block();
        }
        x.ends(0, 2, 9, 1, 2);
        x.put(1, 1, 0, 0, 0);
        x.put(1, 2, 1, 0, 0);
        x.put(1, 2, 2, 0, 0);
        x.ends(1, 1, 0, 3, 0);
        x.put(2, 1, 0, 1, 0);
        x.put(2, 2, 1, 0, 0);
        x.put(2, 1, 2, 0, 0);
        x.ends(2, 1, 0, 3, 0);
        x.put(3, 4, 4, 1, 2);
        x.ends(3, 0, 4, 0, 0);
        // VALUES: 1 INPUT 0; 2 INPUT 1, 3 INPUT 0; CHOICES 4 (1 2), 5 (1 2), 6 (1 3); 7 SUB.
        // 6 has the same OPERANDS twice, and is a CHOICE all the same.
        classesAre(x, 0, 1, 2, 1, 4, 4, 6, 7);
        redundantAre(x, 0, 0, 0, 0, 0, 1, 0, 0);
        DUE.is("operand 7 0", x.operand(7, 0), 5);
        DUE.is("led 7 0", x.led(7, 0), 4);
        DUE.is("led 7 1", x.led(7, 1), 6);
        DUE.is("led 6 0", x.led(6, 0), 1);
        DUE.is("led 6 1", x.led(6, 1), 3);
        DUE.is("led 6 2", x.led(6, 2), NONE);
        DUE.is("led 6 -1", x.led(6, -1), NONE);
    }

    private static void choicesOfOtherBlocks() {
        ValueBench x = new ValueBench();
        for (int b = 0; b < 7; b++) {
            x.block();
        }
        // Two BLOCKS, 3 and 6, where ways with CONST 1 and CONST 2 meet.
        x.ends(0, 2, 9, 1, 2);
        x.put(1, 0, 0, 1, 0);
        x.put(2, 0, 0, 2, 0);
        x.ends(1, 1, 0, 3, 0);
        x.ends(2, 1, 0, 3, 0);
        x.ends(3, 2, 8, 4, 5);
        x.put(4, 0, 1, 1, 0);
        x.put(5, 0, 1, 2, 0);
        x.ends(4, 1, 0, 6, 0);
        x.ends(5, 1, 0, 6, 0);
        // VALUES: 1, 2 CONST; 3 CHOICE of 3; 4, 5 CONST; 6 CHOICE of 6.
        classesAre(x, 0, 1, 2, 3, 1, 2, 6);
        redundantAre(x, 0, 0, 0, 0, 0, 0, 0);
    }

    private static void swappedChoices() {
        ValueBench x = new ValueBench();
        for (int b = 0; b < 4; b++) {
            x.block();
        }
        x.put(0, 0, 0, 1, 0);
        x.put(0, 0, 1, 2, 0);
        x.put(0, 0, 4, 3, 0);
        x.put(0, 0, 5, 1, 0);
        x.ends(0, 1, 0, 1, 0);
        x.ends(1, 2, 4, 2, 3);
        x.put(2, 2, 2, 0, 0);
        x.put(2, 2, 0, 1, 0);
        x.put(2, 2, 1, 2, 0);
        x.put(2, 4, 4, 4, 5);
        x.ends(2, 1, 0, 1, 0);
        x.put(3, 14, 0, 0, 0);
        x.ends(3, 0, 1, 0, 0);
        classesAre(x, 0, 1, 2, 3, 1, 5, 6, 7, 8, 9);
        redundantAre(x, 0, 0, 0, 0, 1, 0, 0, 0, 0, 0);
        DUE.is("operand 5 1", x.operand(5, 1), 6);
        DUE.is("operand 6 1", x.operand(6, 1), 5);
        DUE.is("led 9 1", x.led(9, 1), 1);
        int[] took = {26, 17, 16};
        for (int form = 0; form <= 2; form++) {
            DUE.is("run", x.run(form, 0, 0, 0, 0), 0);
            DUE.is("all CHOICES at once: returned", x.ran(0), 1);
            DUE.is("all CHOICES at once: emitted", x.emitted(0), 2);
            DUE.is("FUEL of " + form, x.ran(1), took[form]);
        }
    }

    private static void entryChoices() {
        ValueBench x = new ValueBench();
        x.block();
        x.block();
        x.put(0, 0, 1, 1, 0);
        x.put(0, 3, 0, 0, 1);
        x.put(0, 1, 2, 0, 0);
        x.put(0, 10, 3, 0, 2);
        x.ends(0, 2, 3, 0, 1);
        x.ends(1, 0, 9, 0, 0);
        // What is never given is 0 all the while, but its CHOICES stand apart from ZERO.
        classesAre(x, 0, 1, 2, 3, 4, 5, 5, 5, 5, 5, 5, 11, 12, 13, 14);
        redundantAre(x, 0, 0, 0, 0, 0, 0, 1, 1, 1, 1, 1, 0, 0, 0, 0);
        DUE.is("led 5 0", x.led(5, 0), 5);
        DUE.is("led 5 1", x.led(5, 1), 0);
        DUE.is("led 1 0", x.led(1, 0), 12);
        DUE.is("read 1", x.read(1, false), 10);
        DUE.is("read 1 in LED", x.read(1, true), 5);
        DUE.is("CLASSES", x.count(4), 10);
    }

    private static void leaderWithAGreaterNumber() {
        ValueBench x = new ValueBench();
        for (int b = 0; b < 3; b++) {
            x.block();
        }
        x.ends(0, 1, 0, 2, 0);
        x.put(2, 1, 0, 0, 0);
        x.ends(2, 1, 0, 1, 0);
        x.put(1, 1, 1, 0, 0);
        x.put(1, 14, 1, 0, 0);
        x.put(1, 4, 2, 1, 0);
        x.ends(1, 0, 1, 0, 0);
        // VALUES: 1 INPUT of BLOCK 1, 2 SUB of BLOCK 1, 3 INPUT of BLOCK 2, which is ahead.
        classesAre(x, 0, 1, 2, 1);
        redundantAre(x, 0, 1, 0, 0);
        DUE.is("read 1", x.read(1, false), 1);
        DUE.is("read 1 in LED", x.read(1, true), 3);
        DUE.is("emits 1 0", x.emits(1, 0, false), 1);
        DUE.is("emits 1 0 in LED", x.emits(1, 0, true), 3);
        DUE.is("operand 2 0", x.operand(2, 0), 1);
        DUE.is("led 2 0", x.led(2, 0), 3);
        DUE.is("led 2 1", x.led(2, 1), 3);
    }

    private static void armsThatDoNotLead() {
        ValueBench x = new ValueBench();
        for (int b = 0; b < 4; b++) {
            x.block();
        }
        x.ends(0, 2, 9, 1, 2);
        x.put(1, 1, 0, 0, 0);
        x.ends(1, 1, 0, 3, 0);
        x.put(2, 1, 1, 0, 0);
        x.ends(2, 1, 0, 3, 0);
        x.put(3, 1, 2, 0, 0);
        x.put(3, 1, 3, 0, 0);
        x.ends(3, 0, 3, 0, 0);
        // VALUES: 1, 2 INPUT of the arms; 3, 4 CHOICES of 0, 1; 5, 6 INPUT where they meet.
        classesAre(x, 0, 1, 1, 3, 4, 1, 1);
        redundantAre(x, 0, 0, 0, 0, 0, 0, 1);
        DUE.is("read 3 in LED", x.read(3, true), 5);
        DUE.is("led 3 0", x.led(3, 0), 1);
        DUE.is("led 3 1", x.led(3, 1), 0);
        DUE.is("led 4 0", x.led(4, 0), 0);
        DUE.is("led 4 1", x.led(4, 1), 2);
    }

    private static void operandsOfChoices() {
        ValueBench x = new ValueBench();
        for (int b = 0; b < 4; b++) {
            x.block();
        }
        x.put(0, 1, 0, 0, 0);
        x.ends(0, 2, 0, 1, 2);
        x.put(1, 1, 1, 0, 0);
        x.ends(1, 1, 0, 3, 0);
        x.put(2, 0, 1, 0, 0);
        x.ends(2, 1, 0, 3, 0);
        x.ends(3, 0, 1, 0, 0);
        classesAre(x, 0, 1, 1, 0, 4);
        redundantAre(x, 0, 0, 1, 1, 0);
        DUE.is("operand 4 0", x.operand(4, 0), 2);
        DUE.is("operand 4 1", x.operand(4, 1), 3);
        DUE.is("led 4 0", x.led(4, 0), 1);
        DUE.is("led 4 1", x.led(4, 1), 0);
    }

    /** Each is told apart from the next only by what it is made of, a hundred deep. */
    private static void longChainParts() {
        ValueBench x = new ValueBench();
        x.block();
        x.put(0, 1, 0, 0, 0);
        for (int i = 0; i < 99; i++) {
            x.put(0, 5, 0, 0, 0);
        }
        DUE.is("VALUES", x.count(3), 101);
        DUE.is("CLASSES", x.count(4), 101);
        for (int v = 0; v <= 100; v++) {
            DUE.is("classOf " + v, x.classOf(v), v);
        }
    }
}
