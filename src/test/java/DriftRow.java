import java.math.BigInteger;

/** Where a drift over dead gates ends, from bits 0 ahead of gate 0: term 3's words in numbers without bounds. */
final class DriftRow {
    private static final BigInteger TIMES = BigInteger.valueOf(1103515245L);
    private static final BigInteger MORE = BigInteger.valueOf(12345L);

    final int bits;
    final int place;
    final int draw;

    private DriftRow(int bits, int place, int draw) {
        this.bits = bits;
        this.place = place;
        this.draw = draw;
    }

    static DriftRow of(int wires, int gates, int seed, int turns) {
        BigInteger draw = BigInteger.valueOf(seed);
        int bits = 0;
        int place = 0;
        for (int turn = 0; turn < turns; turn++) {
            draw = draw.multiply(TIMES).add(MORE).mod(BigInteger.TWO.pow(31));
            if (leftOver(draw, 65536, 3) == 0) {
                bits ^= 1 << leftOver(draw, 256, wires);
            }
            place = place == gates ? 0 : place + 1;
        }
        return new DriftRow(bits, place, draw.intValueExact());
    }

    private static int leftOver(BigInteger draw, int by, int of) {
        return draw.divide(BigInteger.valueOf(by)).mod(BigInteger.valueOf(of)).intValueExact();
    }
}
