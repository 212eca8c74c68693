/** Arguments outside a range: next to it, far beyond it, and such as a narrower type would wrap into it. */
final class Edges {
    private Edges() {
    }

    static int[] outside(int least, int greatest) {
        return new int[] {
            least - 1,
            least - 2,
            least - 3,
            least - 6,
            greatest + 1,
            greatest + 2,
            greatest + 3,
            greatest + 6,
            (1 << 8) + least,
            (1 << 16) + greatest,
            least - (1 << 8),
            least - (1 << 16),
            Integer.MIN_VALUE,
            Integer.MIN_VALUE + 1,
            Integer.MIN_VALUE + greatest,
            Integer.MAX_VALUE - greatest,
            Integer.MAX_VALUE - 1,
            Integer.MAX_VALUE,
        };
    }
}
