import java.util.function.IntToLongFunction;

/** What the tests of boundary cases have in common: a sentence of the document each, and calls at and beyond its limits. */
abstract class Edges {
    static final int NONE = -1, BAD = -2, STATE = -3, FULL = -4, NOT = -5, MISSING = -11, CAST = -12, PLACE = -13, BELOW = -14;
    static final int FAR = 100000;
    static final long VOID = Long.MIN_VALUE;
    static final int LEAST = Integer.MIN_VALUE, GREATEST = Integer.MAX_VALUE;

    final Checks checks;
    private String sentence = "";

    Edges(String test) {
        checks = new Checks(test);
    }

    /** Names the sentence that the checks behind it hold the class to. */
    void says(String words) {
        sentence = words;
    }

    void due(String call, long got, long want) {
        checks.due("[" + sentence + "] " + call, got, want);
    }

    /** The numbers just beyond a range, and the farthest ones, are answered so. */
    void refusedBeyond(int least, int most, long answer, IntToLongFunction call) {
        for (int n : new int[] {least - 1, most + 1, LEAST, GREATEST}) {
            due("with " + n, call.applyAsLong(n), answer);
        }
    }

    /** Every number of a range is answered so. */
    void allAnswer(int least, int most, long answer, IntToLongFunction call) {
        for (int n = least; n <= most; n++) {
            due("with " + n, call.applyAsLong(n), answer);
        }
    }

    static LoweredPowers by(String text) {
        LoweredPowers x = new LoweredPowers();
        if (tell(x, text) < 9) {
            throw new IllegalArgumentException(text);
        }
        return x;
    }

    static void feedAll(LoweredPowers x, String text) {
        for (char letter : text.toCharArray()) {
            x.feed(letter);
        }
    }

    static int tell(LoweredPowers x, String text) {
        feedAll(x, text);
        return x.read();
    }

    /** F's numbers, from x to the 0 on. */
    void dueF(LoweredPowers x, int... numbers) {
        for (int i = 0; i < 5; i++) {
            due("of " + i, x.of(i), FAR + (i < numbers.length ? numbers[i] : 0));
        }
    }

    /** FOUND's b, from s to the 0 on. */
    void dueB(LoweredPowers x, int... numbers) {
        due("B", x.found(-1), numbers.length - 1);
        for (int v = 0; v < numbers.length; v++) {
            due("b at " + v, x.found(v), FAR + numbers[v]);
        }
        due("b above B", x.found(numbers.length), NONE);
    }

    void dueText(LoweredPowers x, String want) {
        StringBuilder got = new StringBuilder();
        int length = x.written(-1);
        for (int i = 0; i < length; i++) {
            got.append((char) x.written(i));
        }
        checks.holds("[" + sentence + "] written " + got + " for " + want, want.contentEquals(got));
        due("behind the text", x.written(length), NONE);
    }

    static int bits(float n) {
        return Float.floatToIntBits(n);
    }

    static long bits(double n) {
        return Double.doubleToLongBits(n);
    }
}
