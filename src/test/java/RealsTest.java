import java.util.Random;

/** Promises 20 to 25 against the machine's own floats and doubles, over many patterns of bits. */
public final class RealsTest {
    private static final int ROUNDS = 3750;
    /** Six calls each: an object answers for 512. */
    private static final int EACH = 80;

    private final Random random = new Random(44);
    private final Checks checks = new Checks("RealsTest");

    public static void main(String[] args) {
        new RealsTest().all();
    }

    private void all() {
        for (int round = 0; round < ROUNDS; round++) {
            LoweredPowers x = new LoweredPowers();
            Model m = new Model();
            for (int i = 0; i < 5; i++) {
                int v = random.nextInt(3) == 0 ? 0 : random.nextInt(3) == 0 ? random.nextInt(10007) - 5003 : random.nextInt(7) - 3;
                x.set(i, v);
                m.set(i, v);
            }
            for (int n = 0; n < EACH; n++) {
                compareFloats(x, m, floatBits());
                compareDoubles(x, m, doubleBits());
            }
        }
        checks.end();
    }

    private void compareFloats(LoweredPowers x, Model m, int bits) {
        checks.due("value " + bits, x.value(bits), m.value(bits));
        checks.due("slope " + bits, x.slope(bits), m.slope(bits));
        checks.due("cut " + bits, x.cut(bits), m.cut(bits));
        int n = random.nextInt(21);
        checks.due("steps " + bits + " " + n, x.steps(bits, n), m.steps(bits, n));
    }

    private void compareDoubles(LoweredPowers x, Model m, long bits) {
        checks.due("valued " + bits, x.valued(bits), m.valued(bits));
        checks.due("narrowed " + bits, x.narrowed(bits), m.narrowed(bits));
    }

    private int floatBits() {
        switch (random.nextInt(4)) {
            case 0: return random.nextInt();
            // few bits, so that halves between two neighbours come up
            case 1: return random.nextInt() & 0xFFF80000;
            // about the least and the greatest ones
            case 2: return (random.nextInt() & 0x81FFFFFF) ^ (random.nextBoolean() ? 0x7E000000 : 0);
            default: return Float.floatToIntBits((float) random.nextGaussian() * 3);
        }
    }

    private long doubleBits() {
        switch (random.nextInt(5)) {
            case 0: return random.nextLong();
            case 1: return random.nextLong() & 0xFFFFF00000000000L;
            case 2: return (random.nextLong() & 0x803FFFFFFFFFFFFFL) ^ (random.nextBoolean() ? 0x7FC0000000000000L : 0);
            // about where floats end, with halves between two of them
            case 3: return Double.doubleToLongBits(Math.scalb(1 + random.nextInt(64) / 32.0, random.nextInt(300) - 155));
            default: return Double.doubleToLongBits(random.nextGaussian() * 3);
        }
    }
}
