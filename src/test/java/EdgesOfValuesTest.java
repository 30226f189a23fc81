/** The boundary cases of promises 20 to 25, a method for each sentence, by bits that are written out. */
public final class EdgesOfValuesTest extends Edges {
    private static final int NAN = 0x7FC00000, INFINITE = 0x7F800000, BELOW_ALL = 0xFF800000, MINUS_NOUGHT = 0x80000000;
    private static final long WIDE_NAN = 0x7FF8000000000000L, WIDE_INFINITE = 0x7FF0000000000000L, WIDE_BELOW_ALL = 0xFFF0000000000000L;
    private static final int[] NANS = {0x7FC00000, 0x7F800001, 0x7FFFFFFF, 0xFFC00000, 0xFF800001, 0xFFFFFFFF, BAD};
    private static final long[] WIDE_NANS = {0x7FF8000000000000L, 0x7FF0000000000001L, Long.MAX_VALUE, 0xFFF8000000000000L, 0xFFF0000000000001L, -1L};

    private EdgesOfValuesTest() {
        super("EdgesOfValuesTest");
    }

    public static void main(String[] args) {
        new EdgesOfValuesTest().all();
    }

    private void all() {
        nansAreOne();
        wideNansAreOne();
        valueOfNone();
        valueAtNought();
        valueThatIsNought();
        valueBySigns();
        valueAtInfinity();
        valueAboveAll();
        valueBelowTheLeast();
        valueHalfWay();
        slopeNotModulo();
        slopeOfNone();
        slopeAtInfinity();
        stepsBad();
        stepsNone();
        stepsMost();
        stepsBySigns();
        stepsAtMinusNought();
        stepsByNought();
        stepsOnInfinity();
        cutBeyondInts();
        cutTowardsNought();
        cutOfNan();
        valuedAtNought();
        valuedAtInfinity();
        valuedAboveAll();
        valuedBelowTheLeast();
        valuedHalfWay();
        narrowedAboveAll();
        narrowedBelowTheLeast();
        narrowedHalfWay();
        narrowedInfinity();
        checks.end();
    }

    private void nansAreOne() {
        says("any NaN as the one of floatToIntBits");
        LoweredPowers x = by("x^3-2x+5");
        for (int nan : NANS) {
            due("value", x.value(nan), NAN);
            due("slope", x.slope(nan), NAN);
            due("no step", x.steps(nan, 0), NAN);
            due("a step", x.steps(nan, 1), NAN);
        }
        tell(x, "0");
        due("F is 0", x.value(NANS[1]), NAN);
        due("F is 0", x.slope(NANS[1]), NAN);
    }

    private void wideNansAreOne() {
        says("any NaN as the one of doubleToLongBits");
        LoweredPowers x = by("x^3-2x+5");
        for (long nan : WIDE_NANS) {
            due("valued", x.valued(nan), WIDE_NAN);
            due("narrowed", x.narrowed(nan), NAN);
        }
        tell(x, "0");
        due("F is 0", x.valued(WIDE_NANS[1]), WIDE_NAN);
        due("F is 0", x.narrowed(WIDE_NANS[1]), NAN);
    }

    private void valueOfNone() {
        says("20: VALUE of F that is 0");
        LoweredPowers x = by("0");
        due("at 3", x.value(bits(3f)), 0);
        due("at -3", x.value(bits(-3f)), 0);
        due("at the least", x.value(0x80000001), 0);
        due("at the greatest", x.value(0xFF7FFFFF), 0);
    }

    private void valueAtNought() {
        says("20: VALUE at 0 and at -0: the number at x to the 0");
        LoweredPowers x = by("x^4-7");
        due("at 0", x.value(0), bits(-7f));
        due("at -0", x.value(MINUS_NOUGHT), bits(-7f));
        tell(x, "x");
        due("at 0", x.value(0), 0);
        due("at -0, and 0", x.value(MINUS_NOUGHT), 0);
        tell(x, "-x");
        due("at 0: -0, and 0", x.value(0), 0);
    }

    private void valueThatIsNought() {
        says("20: VALUE that is 0 is 0, not -0");
        LoweredPowers x = by("x-3");
        due("at 3", x.value(bits(3f)), 0);
        due("at 3", x.valued(bits(3.0)), 0L);
        tell(x, "-x+3");
        due("at 3", x.value(bits(3f)), 0);
        due("at 3", x.valued(bits(3.0)), 0L);
        tell(x, "x^2-2x+1");
        due("at 1", x.slope(bits(1f)), 0);
    }

    private void valueBySigns() {
        says("20: VALUE: times x, and the number, each above or below 0");
        LoweredPowers x = by("-2x-3");
        due("at 5", x.value(bits(5f)), bits(-13f));
        due("at -5", x.value(bits(-5f)), bits(7f));
        tell(x, "2x+3");
        due("at 5", x.value(bits(5f)), bits(13f));
        due("at -5", x.value(bits(-5f)), bits(-7f));
        tell(x, "x^2");
        due("at -3", x.value(bits(-3f)), bits(9f));
        tell(x, "-x^4");
        due("at -3", x.value(bits(-3f)), bits(-81f));
    }

    private void valueAtInfinity() {
        says("20: VALUE: so far (0 at first) times x: no number, if x is infinite");
        LoweredPowers x = by("x^4+1");
        due("above", x.value(INFINITE), NAN);
        due("below", x.value(BELOW_ALL), NAN);
        tell(x, "3");
        due("F is a number", x.value(INFINITE), NAN);
    }

    private void valueAboveAll() {
        says("20: VALUE beyond the greatest float");
        LoweredPowers x = new LoweredPowers();
        // 2 to the 64th less 2 to the 40th: its square is two steps below 2 to the 128th
        due("still a number", x.value(0x5F7FFFFF), 0x7F7FFFFE);
        due("beyond", x.value(0x5F800000), INFINITE);
        tell(x, "-x^2");
        due("beyond, below 0", x.value(0x5F800000), BELOW_ALL);
        tell(x, "x^3-x^2");
        due("infinite stays so", x.value(bits(1e30f)), INFINITE);
        tell(x, "x");
        due("the greatest", x.value(0x7F7FFFFF), 0x7F7FFFFF);
        tell(x, "2x");
        due("twice the greatest", x.value(0x7F7FFFFF), INFINITE);
        due("twice the least of all", x.value(0xFF7FFFFF), BELOW_ALL);
    }

    private void valueBelowTheLeast() {
        says("20: VALUE below the least float");
        LoweredPowers x = new LoweredPowers();
        due("2 to the -148th", x.value(0x1A800000), 2);
        due("half of the least: the even one", x.value(0x1A000000), 0);
        due("above half of the least", x.value(0x1A000001), 1);
        due("of the least", x.value(1), 0);
        tell(x, "x");
        due("the least itself", x.value(1), 1);
        due("the greatest that has no leading bit", x.value(0x007FFFFF), 0x007FFFFF);
        tell(x, "2x");
        due("twice that", x.value(0x007FFFFF), 0x00FFFFFE);
        tell(x, "3x");
        due("three times the least", x.value(0x80000001), 0x80000003);
    }

    private void valueHalfWay() {
        says("20: VALUE in floats: half way between two of them the even one");
        LoweredPowers x = by("3x");
        // 3 and 3 steps of 2 to the -23rd, where floats are 2 to the -22nd apart
        due("to the even one above", x.value(0x3F800001), 0x40400002);
        // 3 and 9 such steps, so half way again
        due("to the even one below", x.value(0x3F800003), 0x40400004);
        tell(x, "x+1");
        due("half of the last bit is lost", x.value(0x33800000), 0x3F800000);
        due("a little more is not", x.value(0x33800001), 0x3F800001);
        tell(x, "x-1");
        due("below 1 floats are nearer to one another", x.value(0x33000000), 0xBF800000);
        due("below 1 floats are nearer to one another", x.value(0x33000001), 0xBF7FFFFF);
    }

    private void slopeNotModulo() {
        says("21: SLOPE: i times the number (not modulo anything)");
        LoweredPowers x = by("0");
        x.set(4, 5003);
        due("20012", x.slope(bits(1f)), bits(20012f));
        x.set(4, -5003);
        due("-20012", x.slope(bits(1f)), bits(-20012f));
        x.set(3, 5003);
        due("-5003", x.slope(bits(1f)), bits(-5003f));
    }

    private void slopeOfNone() {
        says("21: SLOPE from 4 down to 1: none of a number");
        LoweredPowers x = by("7");
        due("at 3", x.slope(bits(3f)), 0);
        due("at -3", x.slope(bits(-3f)), 0);
        tell(x, "5x+7");
        due("at 3", x.slope(bits(3f)), bits(5f));
        due("at 0", x.slope(0), bits(5f));
        tell(x, "x^4");
        due("4 times x to the 3rd", x.slope(bits(-2f)), bits(-32f));
    }

    private void slopeAtInfinity() {
        says("21: SLOPE at infinite x, and beyond the greatest float");
        LoweredPowers x = by("x^4");
        due("no number", x.slope(INFINITE), NAN);
        due("no number", x.slope(BELOW_ALL), NAN);
        due("beyond", x.slope(bits(-1e20f)), BELOW_ALL);
        tell(x, "5");
        due("no number", x.slope(INFINITE), NAN);
    }

    private void stepsBad() {
        says("22: BAD: n STEPS (0 .. 20)");
        LoweredPowers x = new LoweredPowers();
        refusedBeyond(0, 20, BAD, n -> x.steps(bits(1f), n));
        refusedBeyond(0, 20, BAD, n -> x.steps(NAN, n));
    }

    private void stepsNone() {
        says("22: x behind 0 STEPS");
        LoweredPowers x = by("0");
        for (int same : new int[] {0, MINUS_NOUGHT, 1, 0x80000001, bits(-7f), INFINITE, BELOW_ALL, 0x7F7FFFFF}) {
            due("x", x.steps(same, 0), same);
        }
    }

    private void stepsMost() {
        says("22: x behind 20 STEPS");
        LoweredPowers x = new LoweredPowers();
        // each step halves x
        for (int n = 0; n <= 20; n++) {
            due("behind " + n, x.steps(0x40000000, n), 0x40000000 - (n << 23));
        }
    }

    private void stepsBySigns() {
        says("22: a STEP: x less VALUE by SLOPE, each above or below 0");
        LoweredPowers x = by("x^2-2");
        due("-1 by 2", x.steps(bits(1f), 1), bits(1.5f));
        due("-1 by -2", x.steps(bits(-1f), 1), bits(-1.5f));
        due("2 by 4", x.steps(bits(2f), 1), bits(1.5f));
        due("2 by -4", x.steps(bits(-2f), 1), bits(-1.5f));
    }

    private void stepsAtMinusNought() {
        says("22: a STEP of 0 or -0 from 0 or -0");
        LoweredPowers x = by("x");
        due("0 less 0", x.steps(0, 1), 0);
        due("-0 less 0", x.steps(MINUS_NOUGHT, 1), MINUS_NOUGHT);
        tell(x, "-x");
        due("0 less -0", x.steps(0, 1), 0);
        due("-0 less -0", x.steps(MINUS_NOUGHT, 1), 0);
    }

    private void stepsByNought() {
        says("22: a STEP by a SLOPE that is 0");
        LoweredPowers x = by("x^2+1");
        due("1 by 0", x.steps(0, 1), BELOW_ALL);
        due("then none", x.steps(0, 2), NAN);
        tell(x, "-x^2-1");
        due("-1 by 0: SLOPE is -0, and 0", x.steps(0, 1), INFINITE);
        tell(x, "x^2");
        due("0 by 0", x.steps(0, 1), NAN);
        tell(x, "0");
        due("0 by 0", x.steps(bits(3f), 1), NAN);
        tell(x, "-3");
        due("-3 by 0", x.steps(bits(3f), 1), INFINITE);
    }

    private void stepsOnInfinity() {
        says("22: a STEP at infinite x, and with VALUE beyond the greatest float");
        LoweredPowers x = by("x^2-1");
        due("infinite x", x.steps(INFINITE, 1), NAN);
        due("infinite VALUE by a number", x.steps(0x71800000, 1), BELOW_ALL);
        tell(x, "x^4");
        due("infinite by infinite", x.steps(0x7F000000, 1), NAN);
    }

    private void cutBeyondInts() {
        says("23: cut to an int as a cast does: beyond ints");
        LoweredPowers x = by("x");
        due("the last below 2 to the 31st", x.cut(0x4EFFFFFF), 2147483520);
        due("2 to the 31st", x.cut(0x4F000000), GREATEST);
        due("infinite", by("x^2").cut(bits(1e30f)), GREATEST);
        due("less than -2 to the 31st", x.cut(0xCF000001), LEAST);
        due("-2 to the 31st", x.cut(0xCF000000), LEAST);
        due("the first above -2 to the 31st", x.cut(0xCEFFFFFF), -2147483520);
        due("infinite below 0", by("-x^2").cut(bits(1e30f)), LEAST);
    }

    private void cutTowardsNought() {
        says("23: cut to an int as a cast does: towards 0");
        LoweredPowers x = by("x");
        due("below 1", x.cut(0x3F7FFFFF), 0);
        due("above -1", x.cut(0xBF7FFFFF), 0);
        due("1", x.cut(0x3F800000), 1);
        due("-1", x.cut(0xBF800000), -1);
        due("below 2", x.cut(0x3FFFFFFF), 1);
        due("above -2", x.cut(0xBFFFFFFF), -1);
        due("a fourth", x.cut(bits(0.25f)), 0);
        due("a fourth below 0", x.cut(bits(-0.25f)), 0);
        for (int exponent = -40; exponent < 0; exponent++) {
            due("2 to the " + exponent, x.cut(bits(Math.scalb(1.75f, exponent))), 0);
        }
        due("the least", x.cut(1), 0);
        due("0", x.cut(0), 0);
        due("-0", x.cut(MINUS_NOUGHT), 0);
    }

    private void cutOfNan() {
        says("23: cut to an int as a cast does: 0 of a NaN");
        LoweredPowers x = by("x");
        for (int nan : NANS) {
            due("nan", x.cut(nan), 0);
        }
        due("infinite x", x.cut(INFINITE), 0);
    }

    private void valuedAtNought() {
        says("24: VALUE at 0 and at -0: the number at x to the 0");
        LoweredPowers x = by("x^4-7");
        due("at 0", x.valued(0L), bits(-7.0));
        due("at -0", x.valued(Long.MIN_VALUE), bits(-7.0));
        tell(x, "-x");
        due("at 0", x.valued(0L), 0L);
        tell(x, "0");
        due("F is 0", x.valued(bits(-3.0)), 0L);
    }

    private void valuedAtInfinity() {
        says("24: VALUE: so far (0 at first) times x: no number, if x is infinite");
        LoweredPowers x = by("x^4+1");
        due("above", x.valued(WIDE_INFINITE), WIDE_NAN);
        due("below", x.valued(WIDE_BELOW_ALL), WIDE_NAN);
    }

    private void valuedAboveAll() {
        says("24: VALUE beyond the greatest double");
        LoweredPowers x = new LoweredPowers();
        due("still a number", x.valued(0x5FEFFFFFFFFFFFFFL), 0x7FEFFFFFFFFFFFFEL);
        due("beyond", x.valued(0x5FF0000000000000L), WIDE_INFINITE);
        tell(x, "-x^2");
        due("beyond, below 0", x.valued(0x5FF0000000000000L), WIDE_BELOW_ALL);
        tell(x, "x");
        due("the greatest", x.valued(0x7FEFFFFFFFFFFFFFL), 0x7FEFFFFFFFFFFFFFL);
    }

    private void valuedBelowTheLeast() {
        says("24: VALUE below the least double");
        LoweredPowers x = new LoweredPowers();
        // squares of 2 to the -537th, of 2 to the -538th and of a little more
        due("the least", x.valued(0x1E60000000000000L), 1L);
        due("a fourth of the least", x.valued(0x1E50000000000000L), 0L);
        due("half of the least and a little more", x.valued(0x1E56A09E667F3BCDL), 1L);
        tell(x, "x");
        due("the least itself", x.valued(1L), 1L);
        due("the greatest that has no leading bit", x.valued(0x800FFFFFFFFFFFFFL), 0x800FFFFFFFFFFFFFL);
        tell(x, "2x");
        due("twice that", x.valued(0x000FFFFFFFFFFFFFL), 0x001FFFFFFFFFFFFEL);
    }

    private void valuedHalfWay() {
        says("24: VALUE in doubles: half way between two of them the even one");
        LoweredPowers x = by("3x");
        due("to the even one above", x.valued(0x3FF0000000000001L), 0x4008000000000002L);
        due("to the even one below", x.valued(0x3FF0000000000003L), 0x4008000000000004L);
        tell(x, "x+1");
        due("half of the last bit is lost", x.valued(0x3CA0000000000000L), 0x3FF0000000000000L);
        due("a little more is not", x.valued(0x3CA0000000000001L), 0x3FF0000000000001L);
        tell(x, "x^2");
        due("a product's lowest bit is more than half", x.valued(0x3FF4000000000001L), 0x3FF9000000000003L);
    }

    private void narrowedAboveAll() {
        says("25: cast to a float: beyond the greatest float");
        LoweredPowers x = by("x");
        due("the greatest float", x.narrowed(0x47EFFFFFE0000000L), 0x7F7FFFFF);
        due("below half a step above it", x.narrowed(0x47EFFFFFEFFFFFFFL), 0x7F7FFFFF);
        due("half a step above it", x.narrowed(0x47EFFFFFF0000000L), INFINITE);
        due("half a step below the least", x.narrowed(0xC7EFFFFFF0000000L), BELOW_ALL);
        due("the greatest double", x.narrowed(0x7FEFFFFFFFFFFFFFL), INFINITE);
    }

    private void narrowedBelowTheLeast() {
        says("25: cast to a float: below the least float");
        LoweredPowers x = by("x");
        due("the least float", x.narrowed(0x36A0000000000000L), 1);
        due("half of it", x.narrowed(0x3690000000000000L), 0);
        due("a little more", x.narrowed(0x3690000000000001L), 1);
        due("half of it, below 0", x.narrowed(0xB690000000000000L), MINUS_NOUGHT);
        due("three halves of it", x.narrowed(0x36A8000000000000L), 2);
        due("the least double", x.narrowed(1L), 0);
        due("the least double, below 0", x.narrowed(0x8000000000000001L), MINUS_NOUGHT);
        due("below the least with a leading bit", x.narrowed(0x380FFFFFFFFFFFFFL), 0x00800000);
    }

    private void narrowedHalfWay() {
        says("25: cast to a float: half way between two of them the even one");
        LoweredPowers x = by("x");
        due("to the even one below", x.narrowed(0x3FF0000010000000L), 0x3F800000);
        due("a little more", x.narrowed(0x3FF0000010000001L), 0x3F800001);
        due("to the even one above", x.narrowed(0x3FF0000030000000L), 0x3F800002);
        due("over the power of 2", x.narrowed(0x3FFFFFFFF0000000L), 0x40000000);
    }

    private void narrowedInfinity() {
        says("25: VALUE in doubles that is infinite, 0, or no number");
        LoweredPowers x = new LoweredPowers();
        due("infinite", x.narrowed(0x5FF0000000000000L), INFINITE);
        due("0", x.narrowed(0L), 0);
        due("infinite x", x.narrowed(WIDE_INFINITE), NAN);
        tell(x, "-x^2");
        due("infinite below 0", x.narrowed(0x5FF0000000000000L), BELOW_ALL);
    }
}
