import java.math.BigInteger;
import java.util.Arrays;

/**
 * The wave once more, in numbers that never wrap. It keeps the edges for itself: an object that was asked for them at
 * each step would be asked more than 512 times, and what it answers then is free.
 */
final class TrueWave {
    final BigInteger[] heights;
    final BigInteger[] flows;
    private final int[] pairs;

    TrueWave(int[] pairs, int... heights) {
        this.pairs = pairs;
        this.heights = Arrays.stream(heights).mapToObj(BigInteger::valueOf).toArray(BigInteger[]::new);
        flows = new BigInteger[pairs.length / 2];
        Arrays.fill(flows, BigInteger.ZERO);
    }

    TrueWave step(int times) {
        for (int i = 0; i < times; i++) {
            for (int e = 0; e < flows.length; e++) {
                flows[e] = flows[e].add(heights[pairs[2 * e]]).subtract(heights[pairs[2 * e + 1]]);
            }
            for (int e = 0; e < flows.length; e++) {
                heights[pairs[2 * e]] = heights[pairs[2 * e]].subtract(flows[e]);
                heights[pairs[2 * e + 1]] = heights[pairs[2 * e + 1]].add(flows[e]);
            }
        }
        return this;
    }
}
