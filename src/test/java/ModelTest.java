import java.util.Random;

/** Long runs of calls by a fixed seed, each answer compared with the model's. */
public final class ModelTest {
    private static final int OBJECTS = 2500;
    /** An object answers for 512 calls; the longest way of one round here makes some 110. */
    private static final int CALLS = 400;
    private static final int KINDS = 44;
    private static final int[] SPECIAL_FLOATS = {0, 0x80000000, 1, 0x80000001, 0x7F800000, 0xFF800000, 0x7FC00000, 0x7F800001,
        0xFFFFFFFF, 0x7F7FFFFF, 0xFF7FFFFF, 0x00800000, 0x007FFFFF, 0x3F800000, 0xBF800000, 0x4F000000, 0xCF000000, 0x4EFFFFFF};
    private static final long[] SPECIAL_DOUBLES = {0L, Long.MIN_VALUE, 1L, Long.MIN_VALUE + 1, 0x7FF0000000000000L, 0xFFF0000000000000L,
        0x7FF8000000000000L, 0x7FF0000000000001L, -1L, 0x7FEFFFFFFFFFFFFFL, 0x0010000000000000L, 0x000FFFFFFFFFFFFFL, 0x3FF0000000000000L};
    private static final int[] EXTREMES = {Integer.MIN_VALUE, Integer.MAX_VALUE, -1, -2, 5, 3, 12, 13, 100, 127, 5003, 5004, -5003, -5004};
    private static final String LETTERS = "xxxxx^^^^++--0123456789 X*/y~";
    private static final String[] GOOD = {"x", "x^2", "x^3", "x^4", "x^2-1", "x^2+1", "x^3-3x+2", "x^4-2x^2+1", "-2x^3+x", "3x^2-6x+3", "7", "0", "x^4+x"};

    private final Random random = new Random(20261118);
    private final Checks checks = new Checks("ModelTest");

    public static void main(String[] args) {
        new ModelTest().all();
    }

    private void all() {
        for (int object = 0; object < OBJECTS; object++) {
            LoweredPowers x = new LoweredPowers();
            Model m = new Model();
            long first = checks.asked();
            for (long call = 0; call < CALLS; call = checks.asked() - first) {
                call(x, m, random.nextInt(KINDS + 4), "object " + object + " call " + call + " ");
            }
            checks.holds("an object's calls", checks.asked() - first <= 512);
        }
        checks.end();
    }

    /** Mostly least .. most, a little beyond it at times, far beyond it at others. */
    private int near(int least, int most) {
        int way = random.nextInt(40);
        if (way == 0) return EXTREMES[random.nextInt(EXTREMES.length)];
        if (way <= 2) return least - 1 - random.nextInt(2);
        if (way <= 4) return most + 1 + random.nextInt(2);
        return least + random.nextInt(most - least + 1);
    }

    private int number() {
        int way = random.nextInt(8);
        if (way == 0) return near(-5003, 5003);
        if (way < 4) return 0;
        return random.nextInt(9) - 4;
    }

    private int floatBits() {
        int way = random.nextInt(6);
        if (way == 0) return SPECIAL_FLOATS[random.nextInt(SPECIAL_FLOATS.length)];
        if (way == 1) return random.nextInt();
        if (way == 2) return Float.floatToIntBits((float) (random.nextGaussian() * 1e9));
        return Float.floatToIntBits((float) (random.nextGaussian() * 4));
    }

    private long doubleBits() {
        int way = random.nextInt(6);
        if (way == 0) return SPECIAL_DOUBLES[random.nextInt(SPECIAL_DOUBLES.length)];
        if (way == 1) return random.nextLong();
        if (way == 2) return Double.doubleToLongBits(random.nextGaussian() * 1e12);
        return Double.doubleToLongBits(random.nextGaussian() * 4);
    }

    private void call(LoweredPowers x, Model m, int kind, String where) {
        if (kind < 16) polynomialAndSearch(x, m, kind, where);
        else if (kind < 25) checksAndValues(x, m, kind, where);
        else if (kind < 33) plansAndRacks(x, m, kind, where);
        else rest(x, m, kind, where);
    }

    private void polynomialAndSearch(LoweredPowers x, Model m, int kind, String where) {
        int a = near(0, 4), b = near(0, 4), c = near(0, 2), v = number();
        switch (kind) {
            case 0: checks.due(where + "set " + a + " " + v, x.set(a, v), m.set(a, v)); break;
            case 1: checks.due(where + "of " + a, x.of(a), m.of(a)); break;
            case 2: checks.due(where + "degree", x.degree(), m.degree()); break;
            case 3: checks.due(where + "put " + a + " " + b + " " + c + " " + v, x.put(a, b, c, v), m.put(a, b, c, v)); break;
            case 4: checks.due(where + "get", x.get(a, b, c), m.get(a, b, c)); break;
            case 5: if (random.nextInt(4) == 0) checks.due(where + "clear", x.clear(), m.clear()); break;
            case 6: checks.due(where + "order", x.order(), m.order()); break;
            case 7: a = near(0, 24); b = near(0, 8); checks.due(where + "work " + a + " " + b, x.work(a, b), m.work(a, b)); break;
            case 8: a = near(-1, 8); checks.due(where + "right " + a, x.right(a), m.right(a)); break;
            case 9: seek(x, m, where); break;
            case 10: a = near(-1, 5); checks.due(where + "found " + a, x.found(a), m.found(a)); break;
            case 11: checks.due(where + "foundOf", x.foundOf(a, b, c), m.foundOf(a, b, c)); break;
            case 12: checks.due(where + "take", x.take(), m.take()); break;
            case 13: checks.due(where + "roots", x.roots(), m.roots()); break;
            case 14: a = near(0, 5); checks.due(where + "root " + a + " " + c, x.root(a, c), m.root(a, c)); break;
            default: a = near(1, 4); checks.due(where + "easy " + a + " " + b, x.easy(a, b), m.easy(a, b)); break;
        }
    }

    private void seek(LoweredPowers x, Model m, String where) {
        int k = near(1, 4), d = near(0, 4), s = near(0, 2);
        checks.due(where + "search " + k + " " + d + " " + s, x.search(k, d, s), m.search(k, d, s));
        for (int v = -1; v < 9; v++) checks.due(where + "found " + v, x.found(v), m.found(v));
        for (int kk = 0; kk < 5; kk++)
            for (int i = 0; i < 5; i++)
                for (int j = 0; j < 3; j++) checks.due(where + "foundOf " + kk + " " + i + " " + j, x.foundOf(kk, i, j), m.foundOf(kk, i, j));
    }

    private void checksAndValues(LoweredPowers x, Model m, int kind, String where) {
        int n = near(0, 3), u = near(0, 20), bits = floatBits();
        long wide = doubleBits();
        switch (kind) {
            case 16: checks.due(where + "direct " + n + " " + u, x.direct(n, u), m.direct(n, u)); break;
            case 17: checks.due(where + "checked " + n, x.checked(n), m.checked(n)); break;
            case 18: checks.due(where + "value " + bits, x.value(bits), m.value(bits)); break;
            case 19: checks.due(where + "slope " + bits, x.slope(bits), m.slope(bits)); break;
            case 20: checks.due(where + "steps " + bits + " " + u, x.steps(bits, u), m.steps(bits, u)); break;
            case 21: checks.due(where + "cut " + bits, x.cut(bits), m.cut(bits)); break;
            case 22: checks.due(where + "valued " + wide, x.valued(wide), m.valued(wide)); break;
            case 23: checks.due(where + "narrowed " + wide, x.narrowed(wide), m.narrowed(wide)); break;
            default: write(x, m, GOOD[random.nextInt(GOOD.length)], where); break;
        }
    }

    private void plansAndRacks(LoweredPowers x, Model m, int kind, String where) {
        int a = near(0, 2), b = near(0, 2), what = near(0, 4), v = near(-99, 99), i = near(0, 9), n = near(0, 10);
        switch (kind) {
            case 25: checks.due(where + "plan " + what + " " + v, x.plan(what, v), m.plan(what, v)); break;
            case 26: if (random.nextInt(4) == 0) checks.due(where + "unplan", x.unplan(), m.unplan()); break;
            case 27: checks.due(where + "run", x.run(), m.run()); break;
            case 28: checks.due(where + "ahead " + what, x.ahead(what), m.ahead(what)); break;
            case 29: b = near(-1, 2); checks.due(where + "rack " + a + " " + b + " " + n, x.rack(a, b, n), m.rack(a, b, n)); break;
            case 30: v = random.nextInt(); checks.due(where + "store " + a + " " + i + " " + b, x.store(a, i, b, v), m.store(a, i, b, v)); break;
            case 31: for (int y = 0; y < 10; y++) checks.due(where + "thing " + a + " " + y, x.thing(a, y), m.thing(a, y)); break;
            default: checks.due(where + "copied " + a + " " + b, x.copied(a, b), m.copied(a, b)); break;
        }
    }

    private void rest(LoweredPowers x, Model m, int kind, String where) {
        int a = near(0, 2), n = near(-1, 12), i = near(0, 11);
        switch (kind) {
            case 33: n = near(32, 126); checks.due(where + "feed " + n, x.feed(n), m.feed(n)); break;
            case 34: checks.due(where + "wipe", x.wipe(), m.wipe()); break;
            case 35: write(x, m, randomText(), where); break;
            case 36: for (int y = -2; y < 40; y++) checks.due(where + "written " + y, x.written(y), m.written(y)); break;
            case 37: checks.due(where + "list " + a + " " + n, x.list(a, n), m.list(a, n)); break;
            case 38: layOne(x, m, a, i, where); break;
            case 39: checks.due(where + "look " + a + " " + i, x.look(a, i), m.look(a, i)); break;
            case 40: checks.due(where + "judge " + a, x.judge(a), m.judge(a)); break;
            case 41: if (random.nextInt(3) == 0) checks.due(where + "image", x.image(), m.image()); break;
            case 42: if (random.nextInt(3) == 0) checks.due(where + "undo", x.undo(), m.undo()); break;
            case 43: n = near(0, 6); checks.due(where + "count " + n, x.count(n), m.count(n)); break;
            case 44: tellFound(x, m, a, where); break;
            case 45: write(x, m, GOOD[random.nextInt(GOOD.length)], where); seek(x, m, where); break;
            default: checks.due(where + "read", x.read(), m.read()); break;
        }
    }

    private void layOne(LoweredPowers x, Model m, int list, int i, String where) {
        long v = random.nextBoolean() ? random.nextLong() : number();
        checks.due(where + "lay " + list + " " + i, x.lay(list, i, v), m.lay(list, i, v));
    }

    /** A list that tells b, but for its length and perhaps one number. */
    private void tellFound(LoweredPowers x, Model m, int list, String where) {
        int size = m.found(-1) + 1 + (random.nextInt(3) == 0 ? random.nextInt(3) - 1 : 0);
        checks.due(where + "list " + list + " " + size, x.list(list, size), m.list(list, size));
        int spoilt = random.nextInt(3) == 0 ? random.nextInt(9) : -1;
        for (int i = 0; i < size; i++) {
            long v = m.found(i) - 100000L + (i == spoilt ? random.nextInt(3) * 10007 : 0);
            checks.due(where + "lay " + list + " " + i, x.lay(list, i, v), m.lay(list, i, v));
        }
        checks.due(where + "judge " + list, x.judge(list), m.judge(list));
    }

    private String randomText() {
        StringBuilder text = new StringBuilder();
        int length = random.nextInt(14);
        for (int i = 0; i < length; i++) text.append(LETTERS.charAt(random.nextInt(LETTERS.length())));
        return text.toString();
    }

    private void write(LoweredPowers x, Model m, String text, String where) {
        checks.due(where + "wipe", x.wipe(), m.wipe());
        for (char letter : text.toCharArray()) checks.due(where + "feed", x.feed(letter), m.feed(letter));
        checks.due(where + "read " + text, x.read(), m.read());
    }
}
