/** Wrong arguments: next to the range, far off, and such as come back into it if a number wraps round. */
final class Outside {
    // 32 to 39 and -32 to -25 are 0 to 7 to a shift; three times the numbers near a third of
    // 2^32 is about 0 again, which would be an index that fits.
    static final int[] STATES = {-1, 8, -8, 9, 15, 23, 24, 32, 39, -32, -25, 255, 256,
        1431655765, 1431655766, 1431655773, -1431655765, -1431655764, -1431655766,
        Integer.MIN_VALUE, Integer.MIN_VALUE + 7, Integer.MAX_VALUE};
    static final int[] ACTIONS = {-1, 3, -3, 4, 21, 23, 24, 32, 34, -32, Integer.MIN_VALUE, Integer.MAX_VALUE};
    static final int[] SETS = {-1, 256, -2, 257, 384, 511, 512, -128, -255, -256, 65535, 65536,
        Integer.MIN_VALUE, Integer.MIN_VALUE + 255, Integer.MAX_VALUE};

    private Outside() {
    }
}
