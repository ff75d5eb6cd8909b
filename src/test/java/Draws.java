/** Numbers drawn by a fixed rule: the same ones for the same n, at every run of a test. */
final class Draws {
    private long seed;

    Draws(int n) {
        seed = n * 0x9E3779B97F4A7C15L;
    }

    /** A number of 0 to bound - 1. */
    int any(int bound) {
        seed = seed * 6364136223846793005L + 1442695040888963407L;
        return (int) ((seed >>> 33) % bound);
    }
}
