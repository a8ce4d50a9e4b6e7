/** The numbers at the edges of a range, on both sides. */
final class Edges {
    private Edges() { }

    /** The first and the last of the numbers from least to most. */
    static int[] inside(int least, int most) {
        return new int[] {least, most};
    }

    /** Numbers that are not from least to most: the next ones on both sides, and the farthest. */
    static int[] outside(int least, int most) {
        return new int[] {least - 1, most + 1, least - 2, most + 2, least - 16, most + 16, most + 256,
            Integer.MIN_VALUE, Integer.MAX_VALUE};
    }
}
