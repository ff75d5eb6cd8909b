/** Programs that several tests tell, from nothing up to all that can be told. */
final class Stories {
    static final int LEAST = Integer.MIN_VALUE;
    static final int MOST = Integer.MAX_VALUE;

    private Stories() {
    }

    static void nothing(ValueBench x) {
        // A new object, as it is.
    }

    static void entryAlone(ValueBench x) {
        x.block();
    }

    static ValueBench withBlocks(int blocks) {
        ValueBench x = new ValueBench();
        for (int b = 0; b < blocks; b++) {
            x.block();
        }
        return x;
    }

    /**
     * Six BLOCKS: a loop of 1 and 2, a way back from 3 to the ENTRY, an END of 4 that tells a
     * BLOCK that there is not, and 5, which is not REACHED; and a RUN of it that was made.
     */
    static void some(ValueBench x) {
        for (int b = 0; b < 6; b++) {
            x.block();
        }
        x.put(0, 1, 0, 0, 0);
        x.put(0, 0, 1, 1, 0);
        x.put(0, 0, 2, 1, 0);
        x.put(0, 3, 3, 1, 2);
        x.ends(0, 1, 0, 1, 0);
        x.ends(1, 2, 0, 2, 3);
        x.put(2, 4, 0, 0, 1);
        x.put(2, 14, 3, 0, 0);
        x.put(2, 3, 3, 3, 2);
        x.put(2, 2, 4, 3, 0);
        x.ends(2, 1, 0, 1, 0);
        x.put(3, 14, 4, 0, 0);
        x.ends(3, 2, 9, 0, 4);
        x.put(4, 2, 0, 3, 0);
        x.ends(4, 2, 9, 3, 9);
        x.put(5, 0, 0, 5, 0);
        x.put(5, 14, 0, 0, 0);
        x.ends(5, 1, 0, 3, 0);
        x.fuel(77);
        x.run(2, 3, 0, 0, 0);
    }

    /** All that can be told, with 100 CONSTS of which no two have the same number. */
    static void full(ValueBench x) {
        fullOfConsts(x, 1);
    }

    /**
     * All that can be told: 16 BLOCKS, each with two ways, to the next one and the one behind it,
     * so that each has ten CHOICES; and 100 CONSTS, of the number 0 if apart is 0. A BLOCK gives
     * all VARIABLES that are even or odd as it is, and none of the others.
     */
    static void fullOfConsts(ValueBench x, int apart) {
        for (int b = 0; b < 16; b++) {
            x.block();
        }
        for (int b = 0; b < 16; b++) {
            x.ends(b, 2, 9, (b + 1) % 16, (b + 2) % 16);
        }
        for (int i = 0; i < 100; i++) {
            x.put(i % 16, 0, i % 10, apart * (100 + i), 0);
        }
    }
}
