/** A fixed row of numbers that look random, so that every run of a test is the same. */
final class Row {
    private long seed;

    Row(long seed) {
        this.seed = seed;
    }

    int any(int bound) {
        seed = seed * 6364136223846793005L + 1442695040888963407L;
        return (int) ((seed >>> 33) % bound);
    }

    /** A set of states with one member at least. */
    int anySet(int most) {
        int set = 0;
        for (int n = any(most) + 1; n > 0; n--) set |= 1 << any(8);
        return set;
    }
}
