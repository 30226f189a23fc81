import java.math.BigInteger;
import java.util.ArrayList;
import java.util.Arrays;
import java.util.List;
import java.util.regex.Matcher;
import java.util.regex.Pattern;

/**
 * The document once more, by other ways than the class goes (whole matrices, the machine's own
 * floats, patterns of the library), for tests that compare the two.
 */
final class Model {
    static final long P = 10007;
    private static final Pattern TEXT = Pattern.compile(
            "-?(?:[0-9]{1,3}(?:x(?:\\^[0-4])?)?|x(?:\\^[0-4])?)(?:[+-](?:[0-9]{1,3}(?:x(?:\\^[0-4])?)?|x(?:\\^[0-4])?))*");
    private static final Pattern TERM = Pattern.compile("([+-]?)([0-9]{1,3})?(x)?(?:\\^([0-4]))?");

    private long[] f = {0, 0, 1, 0, 0};
    private long[][][] op = new long[5][5][3];
    private long[][][] foundOp = null;
    private long[] foundB = null;
    private List<int[]> changes = new ArrayList<>();
    private Model kept = null;
    private final Object[][] rows = new Object[3][];
    private final StringBuilder tape = new StringBuilder();
    private final long[][] longs = new long[3][];

    static long told(long n) {
        long r = Math.floorMod(n, P);
        return r > 5003 ? r - P : r;
    }

    static long inverse(long n) {
        return BigInteger.valueOf(Math.floorMod(n, P)).modInverse(BigInteger.valueOf(P)).longValue();
    }

    private static boolean in(int n, int least, int most) {
        return n >= least && n <= most;
    }

    // polynomials of x and s: [u][v]

    private static long[][] zero() {
        return new long[40][16];
    }

    private static long[][] times(long[][] a, long[][] b) {
        long[][] c = zero();
        for (int u = 0; u < 40; u++)
            for (int v = 0; v < 16; v++)
                if (a[u][v] != 0)
                    for (int w = 0; w < 40; w++)
                        for (int y = 0; y < 16; y++)
                            if (b[w][y] != 0) c[u + w][v + y] = Math.floorMod(c[u + w][v + y] + a[u][v] * b[w][y], P);
        return c;
    }

    private static long[][] plus(long[][] a, long[][] b) {
        long[][] c = zero();
        for (int u = 0; u < 40; u++) for (int v = 0; v < 16; v++) c[u][v] = Math.floorMod(a[u][v] + b[u][v], P);
        return c;
    }

    private static long[][] derivative(long[][] a) {
        long[][] c = zero();
        for (int u = 1; u < 40; u++) for (int v = 0; v < 16; v++) c[u - 1][v] = Math.floorMod(u * a[u][v], P);
        return c;
    }

    private static long[][] one(int u, int v, long n) {
        long[][] c = zero();
        c[u][v] = Math.floorMod(n, P);
        return c;
    }

    private long[][] poly() {
        long[][] c = zero();
        for (int i = 0; i < 5; i++) c[i][0] = Math.floorMod(f[i], P);
        return c;
    }

    private static long[][] power(long[][] a, int n) {
        long[][] c = one(0, 0, 1);
        for (int i = 0; i < n; i++) c = times(c, a);
        return c;
    }

    /** k derivatives of F to the power s and 1, over F to the power s and 1 less over. */
    private long[][] derived(int k, int over) {
        long[][] g = one(0, 0, 1);
        long[][] big = poly();
        for (int m = 0; m < k; m++) {
            long[][] e = plus(one(0, 1, 1), one(0, 0, 1 - m));
            g = plus(times(derivative(g), big), times(times(e, g), derivative(big)));
        }
        return times(g, power(big, over - k));
    }

    private static int orderOf(long[][][] o) {
        for (int k = 4; k > 0; k--) for (long[] r : o[k]) for (long n : r) if (n != 0) return k;
        return 0;
    }

    private static long[][][] copy(long[][][] o) {
        long[][][] c = new long[5][5][3];
        for (int k = 0; k < 5; k++) for (int i = 0; i < 5; i++) c[k][i] = o[k][i].clone();
        return c;
    }

    private long[][] worked() {
        int order = orderOf(op);
        long[][] sum = zero();
        for (int k = 0; k <= order; k++) {
            long[][] factor = zero();
            for (int i = 0; i < 5; i++) for (int j = 0; j < 3; j++) factor[i][j] = Math.floorMod(op[k][i][j], P);
            sum = plus(sum, times(factor, derived(k, order)));
        }
        return sum;
    }

    int set(int i, int v) {
        if (!in(i, 0, 4)) return -1;
        if (!in(v, -5003, 5003)) return -2;
        long was = f[i];
        f[i] = v;
        return (int) (100000 + was);
    }

    int of(int i) {
        return in(i, 0, 4) ? (int) (100000 + f[i]) : -1;
    }

    int degree() {
        for (int i = 4; i >= 0; i--) if (f[i] != 0) return i;
        return -1;
    }

    int put(int k, int i, int j, int v) {
        if (!in(k, 0, 4) || !in(i, 0, 4) || !in(j, 0, 2)) return -1;
        if (!in(v, -5003, 5003)) return -2;
        long was = op[k][i][j];
        op[k][i][j] = v;
        return (int) (100000 + was);
    }

    int get(int k, int i, int j) {
        if (!in(k, 0, 4) || !in(i, 0, 4) || !in(j, 0, 2)) return -1;
        return (int) (100000 + op[k][i][j]);
    }

    private int others() {
        int n = 0;
        for (long[][] a : op) for (long[] b : a) for (long c : b) if (c != 0) n++;
        return n;
    }

    int clear() {
        int n = others();
        op = new long[5][5][3];
        return n;
    }

    int order() {
        return orderOf(op);
    }

    int work(int u, int v) {
        if (!in(u, 0, 24) || !in(v, 0, 8)) return -1;
        return (int) (100000 + told(worked()[u][v]));
    }

    int right(int v) {
        if (!in(v, -1, 8)) return -1;
        if (degree() < 1) return -3;
        int order = orderOf(op);
        long[][] w = worked();
        long[][] other = power(poly(), Math.max(order - 1, 0));
        if (order == 0) w = times(w, poly());
        int high = 39;
        while (other[high][0] == 0) high--;
        long[][] b = zero();
        for (int y = 0; y < 16; y++) b[0][y] = Math.floorMod(w[high][y] * inverse(other[high][0]), P);
        if (!Arrays.deepEquals(times(b, other), w)) return -5;
        int deg = 15;
        while (deg >= 0 && b[0][deg] == 0) deg--;
        return v == -1 ? deg : (int) (100000 + told(b[0][v]));
    }

    int search(int k, int d, int s) {
        if (!in(k, 1, 4) || !in(d, 0, 4) || !in(s, 0, 2)) return -2;
        if (degree() < 1) return -3;
        List<long[][]> columns = new ArrayList<>();
        List<int[]> names = new ArrayList<>();
        for (int kk = 0; kk <= k; kk++) {
            long[][] base = derived(kk, k);
            for (int i = 0; i <= d; i++)
                for (int j = 0; j <= s; j++) {
                    columns.add(times(one(i, j, 1), base));
                    names.add(new int[] {kk, i, j});
                }
        }
        int former = columns.size();
        for (int v = 0; v <= 8; v++) columns.add(times(one(0, v, 1), power(poly(), k - 1)));
        int n = columns.size();
        long[][] m = new long[25 * 16][n];
        for (int c = 0; c < n; c++)
            for (int u = 0; u < 25; u++)
                for (int v = 0; v < 16; v++) m[u * 16 + v][c] = columns.get(c)[u][v];
        int[] pivotOf = reduce(m, n);
        foundOp = null;
        foundB = null;
        for (int v = 0; v <= 8; v++) {
            if (pivotOf[former + v] >= 0) continue;
            foundOp = new long[5][5][3];
            foundB = new long[v + 1];
            for (int c = 0; c < former + v; c++) {
                if (pivotOf[c] < 0) continue;
                long number = told(m[pivotOf[c]][former + v]);
                if (c < former) foundOp[names.get(c)[0]][names.get(c)[1]][names.get(c)[2]] = number;
                else foundB[c - former] = told(-number);
            }
            foundB[v] = 1;
            return v;
        }
        return -5;
    }

    /** Row reduction of the whole matrix; the row of each column's pivot, or -1. */
    private static int[] reduce(long[][] m, int n) {
        int[] pivotOf = new int[n];
        int row = 0;
        for (int c = 0; c < n; c++) {
            int at = row;
            while (at < m.length && m[at][c] == 0) at++;
            pivotOf[c] = at < m.length ? row : -1;
            if (at == m.length) continue;
            long[] swap = m[at];
            m[at] = m[row];
            m[row] = swap;
            long inv = inverse(m[row][c]);
            for (int y = 0; y < n; y++) m[row][y] = m[row][y] * inv % P;
            for (int r = 0; r < m.length; r++) {
                long factor = m[r][c];
                if (r == row || factor == 0) continue;
                for (int y = 0; y < n; y++) m[r][y] = Math.floorMod(m[r][y] - factor * m[row][y], P);
            }
            row++;
        }
        return pivotOf;
    }

    int found(int v) {
        if (foundB == null) return -3;
        if (v < -1 || v >= foundB.length) return -1;
        return v == -1 ? foundB.length - 1 : (int) (100000 + foundB[v]);
    }

    int foundOf(int k, int i, int j) {
        if (!in(k, 0, 4) || !in(i, 0, 4) || !in(j, 0, 2)) return -1;
        return foundB == null ? -3 : (int) (100000 + foundOp[k][i][j]);
    }

    int take() {
        if (foundB == null) return -3;
        op = copy(foundOp);
        return orderOf(op);
    }

    private List<int[]> allRoots() {
        List<int[]> all = new ArrayList<>();
        for (int c = 1; c <= 6; c++)
            for (int a = 0; a <= 24; a++) {
                if (BigInteger.valueOf(a).gcd(BigInteger.valueOf(c)).intValue() != 1) continue;
                int often = 0;
                long[] b = foundB;
                // how often: as many derivatives as are 0 there, since the degree is far below the prime
                while (b.length > 0 && at(b, -a * inverse(c)) == 0) {
                    often++;
                    long[] next = new long[b.length - 1];
                    for (int v = 1; v < b.length; v++) next[v - 1] = Math.floorMod(v * b[v], P);
                    b = next;
                }
                if (often > 0) all.add(new int[] {a, c, often});
            }
        return all;
    }

    private static long at(long[] b, long s) {
        long sum = 0;
        long power = 1;
        for (long n : b) {
            sum = Math.floorMod(sum + n * power, P);
            power = Math.floorMod(power * s, P);
        }
        return sum;
    }

    int roots() {
        return foundB == null ? -3 : allRoots().size();
    }

    int root(int i, int what) {
        if (foundB == null) return -3;
        List<int[]> all = allRoots();
        return i < 0 || i >= all.size() || !in(what, 0, 2) ? -1 : all.get(i)[what];
    }

    int easy(int m, int v) {
        if (!in(m, 1, 4)) return -2;
        if (!in(v, 0, m)) return -1;
        long[][] b = one(0, 0, 1);
        for (int k = 1; k <= m; k++) b = times(b, plus(one(0, 1, 1), one(0, 0, k * inverse(m))));
        return (int) (100000 + told(b[0][v]));
    }

    private long[][] directly(int n) {
        long[][] sum = zero();
        long[][] g = power(poly(), n + 1);
        for (int k = 0; k < 5; k++) {
            for (int i = 0; i < 5; i++)
                for (int j = 0; j < 3; j++)
                    sum = plus(sum, times(one(i, 0, op[k][i][j] * (long) Math.pow(n, j)), g));
            g = derivative(g);
        }
        return sum;
    }

    int direct(int n, int u) {
        if (!in(n, 0, 3)) return -2;
        if (!in(u, 0, 20)) return -1;
        return (int) (100000 + told(directly(n)[u][0]));
    }

    int checked(int n) {
        if (!in(n, 0, 3)) return -2;
        if (foundB == null) return -3;
        return Arrays.deepEquals(directly(n), times(one(0, 0, at(foundB, n)), power(poly(), n))) ? 1 : 0;
    }

    private float floatAt(float x) {
        float sum = 0;
        for (int i = 4; i >= 0; i--) sum = sum * x + f[i];
        return sum;
    }

    private float slopeAt(float x) {
        float sum = 0;
        for (int i = 4; i >= 1; i--) sum = sum * x + i * f[i];
        return sum;
    }

    private double doubleAt(double x) {
        double sum = 0;
        for (int i = 4; i >= 0; i--) sum = sum * x + f[i];
        return sum;
    }

    int value(int bits) {
        return Float.floatToIntBits(floatAt(Float.intBitsToFloat(bits)));
    }

    int slope(int bits) {
        return Float.floatToIntBits(slopeAt(Float.intBitsToFloat(bits)));
    }

    int steps(int bits, int n) {
        if (!in(n, 0, 20)) return -2;
        float x = Float.intBitsToFloat(bits);
        for (int i = 0; i < n; i++) x = x - floatAt(x) / slopeAt(x);
        return Float.floatToIntBits(x);
    }

    int cut(int bits) {
        return (int) floatAt(Float.intBitsToFloat(bits));
    }

    long valued(long bits) {
        return Double.doubleToLongBits(doubleAt(Double.longBitsToDouble(bits)));
    }

    int narrowed(long bits) {
        return Float.floatToIntBits((float) doubleAt(Double.longBitsToDouble(bits)));
    }

    int plan(int what, int v) {
        if (!in(what, 0, 4)) return -1;
        if (!in(v, -99, 99)) return -2;
        if (changes.size() == 8) return -4;
        changes.add(new int[] {what, v});
        return changes.size();
    }

    int unplan() {
        int n = changes.size();
        changes = new ArrayList<>();
        return n;
    }

    private long[] changed() {
        long[] g = f.clone();
        for (int[] c : changes) {
            long[] next = new long[5];
            for (int i = 0; i < 5; i++) {
                switch (c[0]) {
                    case 0 -> {
                        // binomials
                        long binomial = 1;
                        for (int j = i; j >= 0; j--) {
                            long power = BigInteger.valueOf(c[1]).pow(i - j).longValue();
                            next[j] += g[i] * Math.floorMod(binomial * power, P);
                            binomial = binomial * j / (i - j + 1);
                        }
                    }
                    case 1 -> next[i] = g[i] * c[1];
                    case 2 -> next[4 - i] = g[i];
                    case 3 -> { if (i > 0) next[i - 1] = i * g[i]; }
                    default -> next[i] = g[i] * Math.floorMod(BigInteger.valueOf(c[1]).pow(i).longValue(), P);
                }
            }
            for (int i = 0; i < 5; i++) g[i] = told(next[i]);
        }
        return g;
    }

    int run() {
        f = changed();
        return degree();
    }

    int ahead(int i) {
        return in(i, 0, 4) ? (int) (100000 + changed()[i]) : -1;
    }

    int rack(int rack, int kind, int n) {
        if (!in(rack, 0, 2) || !in(kind, -1, 2)) return -1;
        if (kind == -1) {
            rows[rack] = null;
            return 1;
        }
        if (n > 10) return -2;
        if (n < 0) return -14;
        rows[rack] = kind == 0 ? new Integer[n] : kind == 1 ? new Long[n] : new String[n];
        return 1;
    }

    int store(int rack, int i, int kind, int v) {
        if (!in(rack, 0, 2) || !in(kind, 0, 2)) return -1;
        if (rows[rack] == null) return -11;
        if (i < 0 || i >= rows[rack].length) return -13;
        try {
            rows[rack][i] = kind == 0 ? (Object) Integer.valueOf(v) : kind == 1 ? (Object) Long.valueOf(v) : String.valueOf(v);
        } catch (ArrayStoreException e) {
            return -12;
        }
        return 1;
    }

    long thing(int rack, int i) {
        if (!in(rack, 0, 2) || rows[rack] == null || i < 0 || i >= rows[rack].length || rows[rack][i] == null)
            return Long.MIN_VALUE;
        return Long.parseLong(rows[rack][i].toString());
    }

    int copied(int rack, int other) {
        if (!in(rack, 0, 2) || !in(other, 0, 2)) return -1;
        if (rows[rack] == null) return -11;
        rows[other] = rows[rack].clone();
        return rows[rack].length;
    }

    int feed(int letter) {
        if (!in(letter, 32, 126)) return -2;
        if (tape.length() == 60) return -4;
        tape.append((char) letter);
        return tape.length();
    }

    int wipe() {
        int n = tape.length();
        tape.setLength(0);
        return n;
    }

    int read() {
        String text = tape.toString();
        tape.setLength(0);
        if (!TEXT.matcher(text).matches()) {
            for (int n = 1; n <= text.length(); n++) {
                Matcher m = TEXT.matcher(text.substring(0, n));
                if (!m.matches() && !m.hitEnd()) return -100 - (n - 1);
            }
            return -100 - text.length();
        }
        long[] g = new long[5];
        Matcher m = TERM.matcher(text);
        while (m.find()) {
            if (m.group().isEmpty()) continue;
            long n = m.group(2) == null ? 1 : Long.parseLong(m.group(2));
            int power = m.group(3) == null ? 0 : m.group(4) == null ? 1 : Integer.parseInt(m.group(4));
            g[power] += m.group(1).equals("-") ? -n : n;
        }
        for (int i = 0; i < 5; i++) f[i] = told(g[i]);
        return degree() + 10;
    }

    private String text() {
        StringBuilder all = new StringBuilder();
        for (int i = 4; i >= 0; i--) {
            if (f[i] == 0) continue;
            String behind = i == 0 ? "" : i == 1 ? "x" : "x^" + i;
            String number = Math.abs(f[i]) == 1 && i > 0 ? "" : String.valueOf(Math.abs(f[i]));
            all.append(f[i] < 0 ? "-" : all.length() > 0 ? "+" : "").append(number).append(behind);
        }
        return all.length() == 0 ? "0" : all.toString();
    }

    int written(int i) {
        String text = text();
        return i == -1 ? text.length() : i < 0 || i >= text.length() ? -1 : text.charAt(i);
    }

    int list(int list, int n) {
        if (!in(list, 0, 2)) return -1;
        if (n > 12) return -2;
        if (n < -1) return -14;
        longs[list] = n == -1 ? null : new long[n];
        return 1;
    }

    int lay(int list, int i, long v) {
        if (!in(list, 0, 2)) return -1;
        if (longs[list] == null) return -11;
        if (i < 0 || i >= longs[list].length) return -13;
        longs[list][i] = v;
        return 1;
    }

    long look(int list, int i) {
        if (!in(list, 0, 2) || longs[list] == null || i < 0 || i >= longs[list].length) return Long.MIN_VALUE;
        return longs[list][i];
    }

    int judge(int list) {
        if (!in(list, 0, 2)) return -1;
        if (longs[list] == null) return -11;
        if (foundB == null) return -3;
        int at = Arrays.mismatch(longs[list], foundB);
        return at == -1 ? -5 : at == longs[list].length ? 100 + at : at;
    }

    int image() {
        kept = new Model();
        kept.shape(this);
        return degree();
    }

    private void shape(Model other) {
        f = other.f.clone();
        op = copy(other.op);
        foundOp = other.foundOp == null ? null : copy(other.foundOp);
        foundB = other.foundB == null ? null : other.foundB.clone();
        changes = new ArrayList<>(other.changes);
    }

    int undo() {
        if (kept == null) return -3;
        shape(kept);
        return degree();
    }

    int count(int what) {
        int n = 0;
        switch (what) {
            case 0: for (long a : f) if (a != 0) n++; return n;
            case 1: return others();
            case 2: return changes.size();
            case 3: return tape.length();
            case 4: for (Object[] r : rows) if (r != null) n++; return n;
            case 5: for (long[] l : longs) if (l != null) n++; return n;
            case 6: return foundB == null ? 0 : 1;
            default: return -1;
        }
    }
}
