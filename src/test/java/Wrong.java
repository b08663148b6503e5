/**
 * Arguments that the document refuses: next to the bounds, at the ends of int, and ones that
 * come out as good ones where a cast or a product loses the high bits.
 */
final class Wrong {
    static final int[] SETS = {-1, -4, 4, 5, 256, 1024, 65536, 1 << 22, (1 << 22) + 3, 1 << 30,
        Checks.LEAST, Checks.MOST};
    static final int[] NUMBERS = {-1, -1024, 1024, 1025, 2048, 4096, 65536 + 5, -65536 + 5,
        Checks.LEAST, Checks.MOST};
    static final int[] RANKS = {-1, -1024, 1025, 2048, 65536 + 5, Checks.LEAST, Checks.MOST};
    static final int[] ENDS = {Checks.ends(1025, 0), Checks.ends(1025, 1024), Checks.ends(2047, 3),
        Checks.ends(0, 1025), Checks.ends(1024, 1025), Checks.ends(3, 2047),
        Checks.ends(1025, 1025), Checks.ends(2047, 2047), -1, Checks.MOST};
    static final int[] RANGE_HOWS = {-1, 3, 4, 256, 65536, Checks.LEAST, Checks.MOST};
    static final int[] COMBINE_HOWS = {-1, -4, 4, 5, 256, 65536, Checks.LEAST, Checks.MOST};
    static final int[] SHIFTS = {-1024, 1024, -1025, 1025, -2048, 2048, 65536 + 5, -65536 - 5,
        Checks.LEAST, Checks.MOST};

    private Wrong() {
    }
}
