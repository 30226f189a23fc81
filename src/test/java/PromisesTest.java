/** Each promise of the document, by answers reckoned by hand: ordinary calls, edges, wrong calls. */
public final class PromisesTest {
    private static final int NONE = -1, BAD = -2, STATE = -3, FULL = -4, NOT = -5, MISSING = -11, CAST = -12, PLACE = -13, BELOW = -14;
    private static final int FAR = 100000;
    private static final long VOID = Long.MIN_VALUE;
    private static final int LEAST = Integer.MIN_VALUE, GREATEST = Integer.MAX_VALUE;

    private static final Checks CHECKS = new Checks("PromisesTest");

    public static void main(String[] args) {
        constants();
        promise1();
        promises2To4();
        promises5To8();
        promise9();
        promise10();
        promises11To14();
        searchForgets();
        promises15And16();
        promise17();
        promises18And19();
        promises20And21();
        promise22();
        promise23();
        promises24And25();
        promises26To29();
        promises30And31();
        promises32And33();
        promises34To36();
        promise37();
        promises38To40();
        promise41();
        promises42And43();
        promise44();
        CHECKS.end();
    }

    private static void due(String call, long got, long want) {
        CHECKS.due(call, got, want);
    }

    private static LoweredPowers by(String text) {
        LoweredPowers x = new LoweredPowers();
        due("text " + text, tell(x, text) >= 9 ? 1 : 0, 1);
        return x;
    }

    private static int tell(LoweredPowers x, String text) {
        for (char letter : text.toCharArray()) {
            x.feed(letter);
        }
        return x.read();
    }

    private static String text(LoweredPowers x) {
        StringBuilder all = new StringBuilder();
        for (int i = 0; i < x.written(-1); i++) {
            all.append((char) x.written(i));
        }
        return all.toString();
    }

    private static void sameText(LoweredPowers x, String want) {
        String got = text(x);
        CHECKS.holds("written " + got + " for " + want, got.equals(want));
    }

    private static int bits(float n) {
        return Float.floatToIntBits(n);
    }

    private static void constants() {
        due("NONE", LoweredPowers.NONE, NONE);
        due("BAD", LoweredPowers.BAD, BAD);
        due("STATE", LoweredPowers.STATE, STATE);
        due("FULL", LoweredPowers.FULL, FULL);
        due("NOT", LoweredPowers.NOT, NOT);
        due("MISSING", LoweredPowers.MISSING, MISSING);
        due("CAST", LoweredPowers.CAST, CAST);
        due("PLACE", LoweredPowers.PLACE, PLACE);
        due("BELOW", LoweredPowers.BELOW, BELOW);
        due("FAR", LoweredPowers.FAR, FAR);
        due("VOID", LoweredPowers.VOID, VOID);
    }

    private static void promise1() {
        LoweredPowers x = new LoweredPowers();
        for (int i = 0; i < 5; i++) {
            due("1 of " + i, x.of(i), i == 2 ? FAR + 1 : FAR);
        }
        for (int k = 0; k < 5; k++) {
            for (int i = 0; i < 5; i++) {
                for (int j = 0; j < 3; j++) {
                    due("1 get", x.get(k, i, j), FAR);
                }
            }
        }
        for (int what = 0; what < 7; what++) {
            due("1 count " + what, x.count(what), what == 0 ? 1 : 0);
        }
    }

    private static void promises2To4() {
        LoweredPowers x = new LoweredPowers();
        due("2 set", x.set(2, -5003), FAR + 1);
        due("2 set", x.set(2, 5003), FAR - 5003);
        due("2 set", x.set(2, 0), FAR + 5003);
        due("4 none", x.degree(), -1);
        due("2 i below", x.set(-1, 0), NONE);
        due("2 i above", x.set(5, 0), NONE);
        due("2 i ahead of v", x.set(LEAST, 5004), NONE);
        due("2 v above", x.set(0, 5004), BAD);
        due("2 v below", x.set(4, -5004), BAD);
        due("2 v far", x.set(4, GREATEST), BAD);
        due("4 wrong calls change nothing", x.degree(), -1);
        due("2 set", x.set(0, 7), FAR);
        due("4", x.degree(), 0);
        due("2 set", x.set(4, -1), FAR);
        due("4", x.degree(), 4);
        due("3", x.of(0), FAR + 7);
        due("3", x.of(4), FAR - 1);
        due("3", x.of(-1), NONE);
        due("3", x.of(5), NONE);
        due("3", x.of(GREATEST), NONE);
    }

    private static void promises5To8() {
        LoweredPowers x = new LoweredPowers();
        due("8", x.order(), 0);
        due("5", x.put(4, 4, 2, 5003), FAR);
        due("5", x.put(4, 4, 2, -5003), FAR + 5003);
        due("5", x.put(0, 0, 0, 3), FAR);
        due("5", x.put(2, 1, 0, 4), FAR);
        due("8", x.order(), 4);
        int[][] wrong = {{-1, 0, 0}, {5, 0, 0}, {0, -1, 0}, {0, 5, 0}, {0, 0, -1}, {0, 0, 3}, {LEAST, GREATEST, 0}};
        for (int[] w : wrong) {
            due("5 place", x.put(w[0], w[1], w[2], 9999), NONE);
            due("6 place", x.get(w[0], w[1], w[2]), NONE);
        }
        due("5 v", x.put(1, 1, 1, 5004), BAD);
        due("5 v", x.put(1, 1, 1, -5004), BAD);
        due("6", x.get(1, 1, 1), FAR);
        due("6", x.get(4, 4, 2), FAR - 5003);
        due("6", x.get(0, 0, 0), FAR + 3);
        due("5", x.put(4, 4, 2, 0), FAR - 5003);
        due("8", x.order(), 2);
        due("7", x.clear(), 2);
        due("7", x.clear(), 0);
        due("6", x.get(2, 1, 0), FAR);
        due("8", x.order(), 0);
    }

    private static void promise9() {
        LoweredPowers x = new LoweredPowers();
        due("put", x.put(2, 0, 0, 1), FAR);
        // two derivatives of x to the 2s and 2: (2s+2)(2s+1) x to the 2s, over F to the power s less 1
        due("9", x.work(2, 0), FAR + 2);
        due("9", x.work(2, 1), FAR + 6);
        due("9", x.work(2, 2), FAR + 4);
        due("9", x.work(0, 0), FAR);
        due("9", x.work(1, 0), FAR);
        due("put", x.put(0, 1, 1, -3), FAR);
        due("9 lower order over the same power", x.work(5, 1), FAR - 3);
        due("9", x.work(2, 1), FAR + 6);
        due("9 edge", x.work(24, 8), FAR);
        due("9 u", x.work(25, 0), NONE);
        due("9 u", x.work(-1, 0), NONE);
        due("9 v", x.work(0, 9), NONE);
        due("9 v", x.work(0, -1), NONE);
        x = by("x^4");
        due("put", x.put(4, 4, 2, 1), FAR);
        due("put", x.put(0, 4, 0, 5), FAR);
        int[] fall = {24, 200, 560, 640, 256};
        for (int v = 0; v < 5; v++) {
            due("9 four derivatives", x.work(16, v + 2), FAR + fall[v]);
        }
        due("9", x.work(20, 0), FAR + 5);
        due("9", x.work(16, 1), FAR);
        x = by("7");
        due("put", x.put(1, 0, 0, 1), FAR);
        due("put", x.put(0, 2, 1, 2), FAR);
        due("9 F without x", x.work(2, 1), FAR + 14);
        due("9", x.work(0, 0), FAR);
        x = by("0");
        due("put", x.put(0, 3, 2, -9), FAR);
        due("9 F is 0", x.work(3, 2), FAR - 9);
    }

    private static void promise10() {
        LoweredPowers x = new LoweredPowers();
        due("10 of 0", x.right(-1), -1);
        due("10 of 0", x.right(8), FAR);
        due("put", x.put(2, 0, 0, 1), FAR);
        int[] b = {2, 6, 4, 0, 0, 0, 0, 0, 0};
        due("10", x.right(-1), 2);
        for (int v = 0; v < 9; v++) {
            due("10 " + v, x.right(v), FAR + b[v]);
        }
        due("10 v", x.right(9), NONE);
        due("10 v", x.right(-2), NONE);
        due("put", x.put(1, 0, 0, 1), FAR);
        due("10 a lower term", x.right(0), NOT);
        due("clear", x.clear(), 2);
        due("put", x.put(1, 0, 0, 1), FAR);
        due("10 2x(s+1) is no b", x.right(-1), NOT);
        due("clear", x.clear(), 1);
        due("put", x.put(0, 0, 0, 1), FAR);
        due("10 order 0", x.right(-1), NOT);
        due("10 NONE ahead of NOT", x.right(9), NONE);
        due("read", tell(x, "4"), 10);
        due("10 degree 0", x.right(0), STATE);
        due("10 NONE ahead of STATE", x.right(9), NONE);
        due("read", tell(x, "0"), 9);
        due("10 degree -1", x.right(-1), STATE);
        due("read", tell(x, "3x+5"), 11);
        due("clear", x.clear(), 1);
        due("put", x.put(1, 0, 2, 2), FAR);
        due("10", x.right(-1), 3);
        due("10", x.right(0), FAR);
        due("10", x.right(1), FAR);
        due("10", x.right(2), FAR + 6);
        due("10", x.right(3), FAR + 6);
    }

    private static void promises11To14() {
        LoweredPowers x = new LoweredPowers();
        due("12", x.found(-1), STATE);
        due("12 STATE ahead of NONE", x.found(-2), STATE);
        due("13", x.foundOf(0, 0, 0), STATE);
        due("13 NONE ahead of STATE", x.foundOf(5, 0, 0), NONE);
        due("14", x.take(), STATE);
        int[][] wrong = {{0, 0, 0}, {5, 0, 0}, {1, -1, 0}, {1, 5, 0}, {1, 0, -1}, {1, 0, 3}, {LEAST, 0, 0}, {1, GREATEST, 0}};
        for (int[] w : wrong) {
            due("11 " + w[0] + w[1] + w[2], x.search(w[0], w[1], w[2]), BAD);
        }
        due("read", tell(x, "3"), 10);
        due("11 degree", x.search(1, 0, 0), STATE);
        due("11 BAD ahead of STATE", x.search(0, 0, 0), BAD);
        due("read", tell(x, "2x-5"), 11);
        due("put", x.put(4, 4, 2, 1), FAR);
        // the derivative alone: 2 (s+1), so by half of it s comes of s+1 less 1
        due("11", x.search(1, 0, 0), 1);
        due("12", x.found(-1), 1);
        due("12", x.found(0), FAR + 1);
        due("12", x.found(1), FAR + 1);
        due("12 above B", x.found(2), NONE);
        due("12 below", x.found(-2), NONE);
        due("13", x.foundOf(1, 0, 0), FAR - 5003);
        due("13", x.foundOf(0, 0, 0), FAR);
        due("13", x.foundOf(4, 4, 2), FAR);
        due("13", x.foundOf(0, 0, 3), NONE);
        due("6 the operator is another one", x.get(4, 4, 2), FAR + 1);
        due("14", x.take(), 1);
        due("6", x.get(4, 4, 2), FAR);
        due("6", x.get(1, 0, 0), FAR - 5003);
        due("put", x.put(1, 0, 0, 7), FAR - 5003);
        due("13 FOUND stays", x.foundOf(1, 0, 0), FAR - 5003);
        due("11 what fails by its words keeps FOUND", x.search(5, 0, 0), BAD);
        due("12", x.found(-1), 1);
        due("read", tell(x, "1"), 10);
        due("11 STATE keeps FOUND", x.search(1, 0, 0), STATE);
        due("12", x.found(-1), 1);
    }

    /** A column that those ahead of it explain has number 0: here s to the j (j 1, 2) times the derivative has. */
    private static void searchForgets() {
        LoweredPowers x = by("x^3");
        due("11", x.search(3, 4, 2), 3);
        // (3s+3)(3s+2)(3s+1) by 27
        due("12", x.found(0), FAR + 2224);
        due("12", x.found(1), FAR + 2225);
        due("12", x.found(2), FAR + 2);
        due("12", x.found(3), FAR + 1);
        due("14", x.take(), 3);
        due("10", x.right(-1), 3);
        due("10", x.right(0), FAR + 2224);
        due("11 too low an order", x.search(2, 4, 2), NOT);
        due("12 none any more", x.found(-1), STATE);
        due("13", x.foundOf(3, 0, 0), STATE);
        due("6 the operator stays", x.order(), 3);
        due("44", x.count(6), 0);
    }

    private static void promises15And16() {
        LoweredPowers x = by("x^4");
        due("15", x.roots(), STATE);
        due("16 STATE ahead of NONE", x.root(-1, 7), STATE);
        due("11", x.search(4, 0, 0), 4);
        due("15", x.roots(), 4);
        int[][] all = {{1, 1, 1}, {1, 2, 1}, {1, 4, 1}, {3, 4, 1}};
        for (int i = 0; i < 4; i++) {
            for (int what = 0; what < 3; what++) {
                due("16 " + i + " " + what, x.root(i, what), all[i][what]);
            }
        }
        due("16", x.root(4, 0), NONE);
        due("16", x.root(-1, 0), NONE);
        due("16", x.root(GREATEST, 0), NONE);
        due("16", x.root(0, 3), NONE);
        due("16", x.root(0, -1), NONE);
    }

    private static void promise17() {
        LoweredPowers x = new LoweredPowers();
        int[][] easy = {{1, 1}, {-5003, -5002, 1}, {2224, 2225, 2, 1}};
        for (int m = 1; m <= 3; m++) {
            for (int v = 0; v <= m; v++) {
                due("17 " + m + " " + v, x.easy(m, v), FAR + easy[m - 1][v]);
            }
            due("17 v", x.easy(m, m + 1), NONE);
        }
        due("17", x.easy(4, 4), FAR + 1);
        due("17", x.easy(4, 3), FAR - 5001);
        due("17 v", x.easy(4, -1), NONE);
        due("17 m", x.easy(0, 0), BAD);
        due("17 m", x.easy(5, 0), BAD);
        due("17 m ahead of v", x.easy(LEAST, -1), BAD);
    }

    private static void promises18And19() {
        LoweredPowers x = by("x+1");
        due("put", x.put(1, 1, 1, 1), FAR);
        // 3 times x times 4 times (x+1) to the 3rd
        int[] all = {0, 12, 36, 36, 12, 0};
        for (int u = 0; u < 6; u++) {
            due("18 " + u, x.direct(3, u), FAR + all[u]);
        }
        due("18 s is 0", x.direct(0, 1), FAR);
        due("18 edge", x.direct(3, 20), FAR);
        due("18 n", x.direct(-1, 0), BAD);
        due("18 n", x.direct(4, 0), BAD);
        due("18 n ahead of u", x.direct(4, 21), BAD);
        due("18 u", x.direct(0, 21), NONE);
        due("18 u", x.direct(0, -1), NONE);
        due("19 nothing found", x.checked(0), STATE);
        due("19 n ahead of STATE", x.checked(4), BAD);
        due("19", x.checked(-1), BAD);
        due("11", x.search(1, 0, 0), 1);
        for (int n = 0; n < 4; n++) {
            due("19 another operator", x.checked(n), 0);
        }
        due("14", x.take(), 1);
        for (int n = 0; n < 4; n++) {
            due("19", x.checked(n), 1);
        }
        due("put", x.put(0, 0, 1, 1), FAR);
        due("19 s at 0 does nothing", x.checked(0), 1);
        due("19 s at 1 does", x.checked(1), 0);
        x = by("x^4");
        due("put", x.put(0, 4, 2, 2), FAR);
        due("18 highest", x.direct(3, 20), FAR + 18);
        due("put", x.put(4, 0, 0, 1), FAR);
        // 16 * 15 * 14 * 13 = 43680 = 4 * 10007 and 3652
        due("18 four derivatives", x.direct(3, 12), FAR + 3652);
    }

    private static void promises20And21() {
        LoweredPowers x = by("x^3-2x+5");
        due("20", x.value(bits(1.5f)), bits(5.375f));
        due("21", x.slope(bits(1.5f)), bits(4.75f));
        due("20 rounding", x.value(bits(0.1f)), bits(((0.1f * 0.1f) - 2f) * 0.1f + 5f));
        due("20 0 below", x.value(0x80000000), bits(5f));
        due("20 infinite", x.value(0x7F800000), 0x7FC00000);
        due("20 NaN", x.value(0xFFFFFFFF), 0x7FC00000);
        due("21 NaN", x.slope(0x7F800001), 0x7FC00000);
        due("20 beyond", x.value(bits(-1e30f)), 0xFF800000);
        x = by("0");
        due("20 0", x.value(bits(-3f)), 0);
        due("21 0", x.slope(bits(-3f)), 0);
        x = new LoweredPowers();
        due("20 least", x.value(1), 0);
        due("set", x.set(4, 5003), FAR);
        due("21 not modulo", x.slope(bits(1f)), bits(20014f));
        x = by("x");
        due("20 least", x.value(0x80000001), 0x80000001);
    }

    private static void promise22() {
        LoweredPowers x = new LoweredPowers();
        due("22", x.steps(bits(2f), 1), bits(1f));
        due("22", x.steps(bits(2f), 20), bits(2f / 1048576f));
        due("22 none", x.steps(bits(7f), 0), bits(7f));
        due("22 NaN, no step", x.steps(0xFF800001, 0), 0x7FC00000);
        due("22 0 by 0", x.steps(0, 1), 0x7FC00000);
        due("22 n", x.steps(0, 21), BAD);
        due("22 n", x.steps(0, -1), BAD);
        x = by("5");
        due("22 5 by 0", x.steps(bits(1f), 1), 0xFF800000);
        due("22 then NaN", x.steps(bits(1f), 2), 0x7FC00000);
        x = by("x^2-2");
        due("22", x.steps(bits(1f), 20), bits(1.41421354f));
    }

    private static void promise23() {
        LoweredPowers x = by("x^3-2x+5");
        due("23", x.cut(bits(2.5f)), 15);
        due("23 beyond", x.cut(bits(1e10f)), GREATEST);
        due("23 beyond", x.cut(bits(-1e10f)), LEAST);
        due("23 NaN", x.cut(0x7FC00000), 0);
        x = by("x");
        due("23 towards 0", x.cut(bits(-2.75f)), -2);
        due("23 towards 0", x.cut(bits(-0.999f)), 0);
        due("23", x.cut(bits(2147483520f)), 2147483520);
        due("23", x.cut(bits(-2147483648f)), LEAST);
    }

    private static void promises24And25() {
        LoweredPowers x = by("x^3-2x+5");
        double third = 1.0 / 3;
        double at = (third * third - 2) * third + 5;
        due("24", x.valued(Double.doubleToLongBits(third)), Double.doubleToLongBits(at));
        due("25", x.narrowed(Double.doubleToLongBits(third)), bits((float) at));
        due("24 NaN", x.valued(-1L), 0x7FF8000000000000L);
        due("25 NaN", x.narrowed(0x7FF0000000000001L), 0x7FC00000);
        due("24 infinite", x.valued(0x7FF0000000000000L), 0x7FF8000000000000L);
        due("25 beyond floats", x.narrowed(Double.doubleToLongBits(-1e20)), 0xFF800000);
        x = by("x");
        due("25 below floats", x.narrowed(Double.doubleToLongBits(-1e-60)), 0x80000000);
        due("25 least float", x.narrowed(Double.doubleToLongBits(1e-45)), 1);
        due("24 least double", x.valued(1L), 1L);
    }

    private static void promises26To29() {
        LoweredPowers x = by("x^4-1");
        due("27", x.unplan(), 0);
        due("28 no plan", x.run(), 4);
        due("26 what", x.plan(-1, 0), NONE);
        due("26 what", x.plan(5, 0), NONE);
        due("26 what ahead of v", x.plan(5, 100), NONE);
        due("26 v", x.plan(0, 100), BAD);
        due("26 v", x.plan(2, -100), BAD);
        due("26 moved", x.plan(0, -1), 1);
        int[] moved = {0, -4, 6, -4, 1};
        for (int i = 0; i < 5; i++) {
            due("29 moved", x.ahead(i), FAR + moved[i]);
        }
        due("26 turned", x.plan(2, 99), 2);
        due("29 turned", x.ahead(0), FAR + 1);
        due("26 derivative", x.plan(3, -99), 3);
        int[] derived = {-4, 12, -12, 0, 0};
        for (int i = 0; i < 5; i++) {
            due("29 derivative", x.ahead(i), FAR + derived[i]);
        }
        due("26 times", x.plan(1, -7), 4);
        due("26 argument", x.plan(4, 99), 5);
        due("29 changes nothing", x.of(4), FAR + 1);
        due("28", x.run(), 2);
        // -84 * 99 = -8316, told as 1691; 84 * 9801 = 823284 = 82 * 10007 and 2710
        due("28", x.of(0), FAR + 28);
        due("28", x.of(1), FAR + 1691);
        due("28", x.of(2), FAR + 2710);
        due("28 the plan stays", x.count(2), 5);
        due("29 i", x.ahead(-1), NONE);
        due("29 i", x.ahead(5), NONE);
        for (int n = 6; n <= 8; n++) {
            due("26", x.plan(1, 0), n);
        }
        due("26 full", x.plan(1, 0), FULL);
        due("26 v ahead of full", x.plan(1, 100), BAD);
        due("28", x.run(), -1);
        due("27", x.unplan(), 8);
        due("26", x.plan(4, 0), 1);
        due("set", x.set(3, 5), FAR);
        due("set", x.set(0, -2), FAR);
        due("28 argument times 0", x.run(), 0);
        due("28", x.of(0), FAR - 2);
    }

    private static void promises30And31() {
        LoweredPowers x = new LoweredPowers();
        due("30 rack", x.rack(-1, 0, 0), NONE);
        due("30 rack", x.rack(3, 0, 0), NONE);
        due("30 kind", x.rack(0, -2, 0), NONE);
        due("30 kind ahead of n", x.rack(0, 3, 11), NONE);
        due("30 n", x.rack(0, 0, 11), BAD);
        due("30 n", x.rack(0, 0, -1), BELOW);
        due("30 n", x.rack(0, 0, LEAST), BELOW);
        due("31 missing", x.store(0, 0, 0, 0), MISSING);
        due("30 nothing, any n", x.rack(0, -1, LEAST), 1);
        for (int kind = 0; kind < 3; kind++) {
            due("30", x.rack(kind, kind, 10), 1);
            for (int other = 0; other < 3; other++) {
                due("31", x.store(kind, 9, other, 5), kind == other ? 1 : CAST);
                due("31 place ahead of cast", x.store(kind, 10, other, 5), PLACE);
            }
            due("31 place", x.store(kind, -1, kind, 5), PLACE);
        }
        due("31 rack", x.store(3, 0, 0, 0), NONE);
        due("31 rack", x.store(-1, 0, 0, 0), NONE);
        due("31 kind", x.store(0, 99, 3, 0), NONE);
        due("31 -1 is no kind of a thing", x.store(0, 0, -1, 0), NONE);
        due("32", x.thing(0, 9), 5);
        due("30 anew", x.rack(0, 0, 10), 1);
        due("32 empty again", x.thing(0, 9), VOID);
        due("30 nothing", x.rack(1, -1, 4), 1);
        due("31 missing ahead of place", x.store(1, 77, 1, 0), MISSING);
        due("30", x.rack(2, 2, 0), 1);
        due("31 no places", x.store(2, 0, 2, 0), PLACE);
        due("44", x.count(4), 2);
    }

    private static void promises32And33() {
        LoweredPowers x = new LoweredPowers();
        due("32 nothing", x.thing(0, 0), VOID);
        due("32 rack", x.thing(3, 0), VOID);
        due("32 rack", x.thing(-1, 0), VOID);
        due("33 missing", x.copied(0, 1), MISSING);
        due("33 rack", x.copied(3, 0), NONE);
        due("33 other ahead of missing", x.copied(0, -1), NONE);
        due("30", x.rack(0, 2, 4), 1);
        due("31", x.store(0, 1, 2, LEAST), 1);
        due("31", x.store(0, 3, 2, GREATEST), 1);
        due("32", x.thing(0, 1), LEAST);
        due("32", x.thing(0, 3), GREATEST);
        due("32 empty", x.thing(0, 0), VOID);
        due("32 place", x.thing(0, 4), VOID);
        due("32 place", x.thing(0, -1), VOID);
        due("33", x.copied(0, 2), 4);
        due("32", x.thing(2, 1), LEAST);
        due("32", x.thing(2, 0), VOID);
        due("31 of the same kind", x.store(2, 0, 0, 1), CAST);
        due("31", x.store(2, 1, 2, 6), 1);
        due("31", x.store(0, 3, 2, 8), 1);
        due("32", x.thing(0, 1), LEAST);
        due("32", x.thing(2, 3), GREATEST);
        due("33 itself", x.copied(0, 0), 4);
        due("32", x.thing(0, 3), 8);
        due("30", x.rack(0, 0, 0), 1);
        due("33 no places", x.copied(0, 2), 0);
        due("32", x.thing(2, 1), VOID);
        due("30", x.rack(0, 0, 4), 1);
        due("32 what was dropped stays dropped", x.thing(0, 3), VOID);
    }

    private static void promises34To36() {
        LoweredPowers x = new LoweredPowers();
        due("34", x.feed(31), BAD);
        due("34", x.feed(127), BAD);
        due("34", x.feed(-1), BAD);
        due("35", x.wipe(), 0);
        for (int n = 1; n <= 60; n++) {
            due("34", x.feed(n % 2 == 1 ? 'x' : '+'), n);
        }
        due("34 full", x.feed('x'), FULL);
        due("34 BAD ahead of full", x.feed(0), BAD);
        due("36 ends too early", x.read(), -160);
        due("36 empty then", x.wipe(), 0);
        due("34", x.feed(32), 1);
        due("34", x.feed(126), 2);
        due("35", x.wipe(), 2);
        for (int n = 1; n <= 60; n++) {
            due("34", x.feed(n % 4 == 0 ? '+' : '9'), n);
        }
        due("35", x.wipe(), 60);
        faults(x);
        texts(x);
    }

    private static void faults(LoweredPowers x) {
        String[] texts = {"", "+x", "-", "--1", "x+", "x+-1", "x^", "x^5", "x^22", "2^2", "1234", "12x3", "xx", "x 1", "x*2", "X", "3x^4^1", "-x^3-x^2y"};
        int[] faults = {0, 0, 1, 1, 2, 2, 2, 2, 3, 1, 3, 3, 1, 1, 1, 0, 4, 8};
        for (int i = 0; i < texts.length; i++) {
            due("36 " + texts[i], tell(x, texts[i]), -100 - faults[i]);
            due("36 the tape is empty", x.count(3), 0);
            sameText(x, "x^2");
        }
    }

    private static void texts(LoweredPowers x) {
        due("36", tell(x, "-x^4+12x^3-999x^2+x-007"), 14);
        sameText(x, "-x^4+12x^3-999x^2+x-7");
        due("36 like powers", tell(x, "x^1+x^0+2-3x+4x^0"), 11);
        sameText(x, "-2x+7");
        due("36 modulo", tell(x, "999x+999x+999x+999x+999x+999x-0"), 11);
        due("36 modulo", x.of(1), FAR + 5994 - 10007);
        due("36 0", tell(x, "x^3-x^3"), 9);
        due("36 -0", tell(x, "-0x^4"), 9);
        due("36 0", x.count(0), 0);
    }

    private static void promise37() {
        LoweredPowers x = by("0");
        sameText(x, "0");
        due("37", x.written(-1), 1);
        due("37", x.written(1), NONE);
        due("37", x.written(-2), NONE);
        due("37", x.written(GREATEST), NONE);
        String[] texts = {"1", "-1", "x", "-x", "x^2", "-x^3+1", "10x^4-100x^3+20x^2-1"};
        for (String t : texts) {
            due("36", tell(x, t) >= 10 ? 1 : 0, 1);
            sameText(x, t);
        }
        for (int i = 0; i < 5; i++) {
            x.set(i, -5000 - (i & 1));
        }
        sameText(x, "-5000x^4-5001x^3-5000x^2-5001x-5000");
        due("37 longest", x.written(-1), 35);
        due("37 longest", x.written(34), '0');
        due("37 longest", x.written(35), NONE);
    }

    private static void promises38To40() {
        LoweredPowers x = new LoweredPowers();
        due("38 list", x.list(-1, 0), NONE);
        due("38 list ahead of n", x.list(3, 13), NONE);
        due("38 n", x.list(0, 13), BAD);
        due("38 n", x.list(0, -2), BELOW);
        due("38 n", x.list(0, LEAST), BELOW);
        due("39 missing", x.lay(0, 0, 1), MISSING);
        due("39 list", x.lay(3, 0, 1), NONE);
        due("40 missing", x.look(0, 0), VOID);
        due("40 list", x.look(3, 0), VOID);
        due("40 list", x.look(-1, 0), VOID);
        due("38", x.list(0, 12), 1);
        due("40", x.look(0, 11), 0);
        due("39", x.lay(0, 11, Long.MAX_VALUE), 1);
        due("39", x.lay(0, 0, Long.MIN_VALUE + 1), 1);
        due("39 place", x.lay(0, 12, 1), PLACE);
        due("39 place", x.lay(0, -1, 1), PLACE);
        due("40", x.look(0, 11), Long.MAX_VALUE);
        due("40", x.look(0, 0), Long.MIN_VALUE + 1);
        due("40 place", x.look(0, 12), VOID);
        due("40 place", x.look(0, -1), VOID);
        due("38 another", x.list(1, 1), 1);
        due("40 another", x.look(1, 0), 0);
        due("38 anew", x.list(0, 12), 1);
        due("40 anew", x.look(0, 11), 0);
        due("38 empty", x.list(0, 0), 1);
        due("39 empty", x.lay(0, 0, 0), PLACE);
        due("38 missing", x.list(0, -1), 1);
        due("39 missing ahead of place", x.lay(0, 77, 0), MISSING);
        due("44", x.count(5), 1);
    }

    private static void promise41() {
        LoweredPowers x = new LoweredPowers();
        due("41 list", x.judge(3), NONE);
        due("41 list", x.judge(-1), NONE);
        due("41 missing", x.judge(0), MISSING);
        due("38", x.list(0, 0), 1);
        due("41 nothing found", x.judge(0), STATE);
        due("11", x.search(2, 0, 0), 2);
        due("41 missing", x.judge(1), MISSING);
        due("41 shorter by all", x.judge(0), 100);
        due("38", x.list(0, 3), 1);
        due("41 first", x.judge(0), 0);
        due("39", x.lay(0, 0, -5003), 1);
        due("41 second", x.judge(0), 1);
        due("39", x.lay(0, 1, -5002), 1);
        due("41 third", x.judge(0), 2);
        due("39", x.lay(0, 2, 1), 1);
        due("41 none", x.judge(0), NOT);
        due("39", x.lay(0, 2, 1L + (1L << 32)), 1);
        due("41 longs", x.judge(0), 2);
        due("38", x.list(0, 4), 1);
        due("39", x.lay(0, 0, -5003), 1);
        due("39", x.lay(0, 1, -5002), 1);
        due("39", x.lay(0, 2, 1), 1);
        due("41 above B", x.judge(0), 3);
        due("38", x.list(0, 2), 1);
        due("39", x.lay(0, 0, -5003), 1);
        due("39", x.lay(0, 1, -5002), 1);
        due("41 shorter", x.judge(0), 102);
        due("39", x.lay(0, 0, 5004), 1);
        due("41 numbers are told as -5003 .. 5003", x.judge(0), 0);
    }

    private static void promises42And43() {
        LoweredPowers x = new LoweredPowers();
        due("43", x.undo(), STATE);
        due("11", x.search(2, 0, 0), 2);
        due("14", x.take(), 2);
        due("26", x.plan(3, 0), 1);
        due("30", x.rack(0, 0, 1), 1);
        due("38", x.list(0, 1), 1);
        due("34", x.feed('7'), 1);
        due("42", x.image(), 2);
        due("31", x.store(0, 0, 0, 4), 1);
        due("39", x.lay(0, 0, 6), 1);
        due("28", x.run(), 1);
        due("27", x.unplan(), 1);
        due("7", x.clear(), 1);
        due("11", x.search(1, 1, 0), 1);
        for (int times = 0; times < 2; times++) {
            due("43", x.undo(), 2);
            sameText(x, "x^2");
            due("43", x.order(), 2);
            due("43", x.found(-1), 2);
            due("43", x.found(0), FAR - 5003);
            due("43", x.foundOf(2, 0, 0), FAR + 2502);
            due("43", x.foundOf(1, 0, 0), FAR);
            due("43", x.count(2), 1);
            due("43", x.ahead(1), FAR + 2);
            due("43 racks stay", x.thing(0, 0), 4);
            due("43 lists stay", x.look(0, 0), 6);
            due("43 the tape stays", x.count(3), 1);
            due("26 behind the image", x.plan(1, 3), 2);
            due("2 behind the image", x.set(2, 9), FAR + 1);
            due("11 behind the image", x.search(1, 0, 0), NOT);
        }
        due("2", x.set(4, 1), FAR);
        due("42 another one", x.image(), 4);
        due("36", x.read(), 10);
        due("43", x.undo(), 4);
        due("43 nothing found then", x.found(-1), STATE);
    }

    private static void promise44() {
        LoweredPowers x = by("x^4-3x+2");
        due("44", x.count(0), 3);
        x.put(0, 0, 0, 1);
        x.put(4, 4, 2, 1);
        due("44", x.count(1), 2);
        x.plan(2, 0);
        x.plan(2, 0);
        due("44", x.count(2), 2);
        x.feed('x');
        due("44", x.count(3), 1);
        x.rack(2, 1, 0);
        due("44", x.count(4), 1);
        x.list(1, 0);
        x.list(2, 3);
        due("44", x.count(5), 2);
        due("44", x.count(6), 0);
        due("11", x.search(1, 4, 1), 1);
        due("44", x.count(6), 1);
        due("44", x.count(7), NONE);
        due("44", x.count(-1), NONE);
        due("44", x.count(LEAST), NONE);
    }
}
