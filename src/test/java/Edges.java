import java.util.stream.IntStream;

/** Arguments about the edges of a range. */
final class Edges {
    // Distances at which a shift, a mask or a cast to a narrower type would
    // take an argument for one inside the range.
    private static final int[] WRAPS = {8, 32, 64, 256, 65536, 1 << 30, Integer.MIN_VALUE};

    private Edges() {
    }

    /** Just outside the range least .. greatest, further out, and the least and the greatest int. */
    static int[] outside(int least, int greatest) {
        IntStream near = IntStream.of(least - 1, least - 2, greatest + 1, greatest + 2);
        IntStream wrapped = IntStream.of(WRAPS).flatMap(d ->
                IntStream.of(least - d, least + d, greatest - d, greatest + d));
        IntStream far = IntStream.of(Integer.MIN_VALUE, Integer.MIN_VALUE + 1,
                Integer.MAX_VALUE - 1, Integer.MAX_VALUE);
        return IntStream.concat(IntStream.concat(near, wrapped), far)
                .filter(n -> n < least || n > greatest).distinct().toArray();
    }

    static int[] notItems() {
        return outside(0, 7);
    }

    static int[] notBidNumbers() {
        return outside(0, 7);
    }

    static int[] notBidders() {
        return outside(0, 3);
    }

    static int[] notAmounts() {
        return outside(1, 50);
    }

    static int[] notBundles() {
        return outside(1, 255);
    }
}
