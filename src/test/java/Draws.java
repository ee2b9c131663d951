/** Draws as the document tells them, in arithmetic of longs that wraps nowhere by itself. */
final class Draws {
    private static final long ALL_BITS = 0xFFFFFFFFL;

    private Draws() {
    }

    /** The seed behind one draw. */
    static int next(int seed) {
        long product = (seed & ALL_BITS) * 1103515245L;
        return (int) ((product & ALL_BITS) + 12345 & ALL_BITS);
    }

    /** What a draw below n answers whose seed has become this. */
    static int drawn(int seed, int n) {
        return (int) (((seed & ALL_BITS) >> 16) % n);
    }

    /** The least seed from 0 on by which draws come out so: pairs of below what, and what is drawn. */
    static int seedFor(int... pairs) {
        for (int seed = 0; seed < 10_000_000; seed++) {
            int at = seed;
            boolean isFit = true;
            for (int i = 0; i < pairs.length && isFit; i += 2) {
                at = next(at);
                isFit = drawn(at, pairs[i]) == pairs[i + 1];
            }
            if (isFit) {
                return seed;
            }
        }
        throw new IllegalStateException("no such seed");
    }
}
