import java.lang.reflect.Field;

/**
 * The boundary cases of ROOTS and HOW OFTEN. Searches within the document's limits were only ever seen to find EASY's
 * polynomials, which have neither a root 0 nor one twice; so here b is laid into the object by hand.
 */
public final class EdgesOfRootsTest extends Edges {
    private static final long PRIME = 10007;

    private EdgesOfRootsTest() {
        super("EdgesOfRootsTest");
    }

    public static void main(String[] args) throws Exception {
        new EdgesOfRootsTest().all();
    }

    private void all() throws Exception {
        rootNought();
        greatestA();
        greatestC();
        lowestTerms();
        aboveNought();
        byCThenByA();
        howOftenMost();
        howOftenOfSeveral();
        noRootAtAll();
        checks.end();
    }

    private static Object inside(Object of, String name) throws Exception {
        Field field = of.getClass().getDeclaredField(name);
        field.setAccessible(true);
        return field.get(of);
    }

    /** FOUND's b becomes the product of s and a by c, for each pair of a and c. */
    private static LoweredPowers withRoots(int[]... pairs) throws Exception {
        LoweredPowers x = new LoweredPowers();
        x.search(2, 0, 0);
        long[] product = new long[pairs.length + 2];
        product[0] = 1;
        for (int[] pair : pairs) {
            long number = Math.floorMod(pair[0] * Model.inverse(pair[1]), PRIME);
            for (int v = pairs.length; v >= 0; v--) {
                product[v] = (number * product[v] + (v > 0 ? product[v - 1] : 0)) % PRIME;
            }
        }
        Object found = inside(inside(x, "now"), "found");
        int[] b = (int[]) inside(found, "b");
        for (int v = 0; v < b.length; v++) {
            b[v] = v <= pairs.length ? (int) Model.told(product[v]) : 0;
        }
        Field top = found.getClass().getDeclaredField("top");
        top.setAccessible(true);
        top.setInt(found, pairs.length);
        return x;
    }

    private void dueRoots(LoweredPowers x, int[]... roots) {
        due("roots", x.roots(), roots.length);
        for (int i = 0; i < roots.length; i++) {
            for (int what = 0; what < 3; what++) {
                due("root " + i + " " + what, x.root(i, what), roots[i][what]);
            }
        }
        refusedBeyond(0, roots.length - 1, NONE, i -> x.root(i, 0));
    }

    private static int[] of(int... numbers) {
        return numbers;
    }

    private void rootNought() throws Exception {
        says("ROOTS: a 0: of a 0 c 1 alone");
        dueRoots(withRoots(of(0, 1)), of(0, 1, 1));
        dueRoots(withRoots(of(0, 1), of(1, 6)), of(0, 1, 1), of(1, 6, 1));
    }

    private void greatestA() throws Exception {
        says("ROOTS: a 0 .. 24");
        dueRoots(withRoots(of(24, 1), of(25, 1)), of(24, 1, 1));
        dueRoots(withRoots(of(24, 5), of(26, 5)), of(24, 5, 1));
        dueRoots(withRoots(of(23, 6), of(25, 6)), of(23, 6, 1));
        dueRoots(withRoots(of(23, 2), of(25, 2), of(25, 3)), of(23, 2, 1));
    }

    private void greatestC() throws Exception {
        says("ROOTS: c 1 .. 6");
        dueRoots(withRoots(of(1, 6), of(5, 6), of(1, 7), of(2, 7), of(1, 8)), of(1, 6, 1), of(5, 6, 1));
        dueRoots(withRoots(of(7, 1), of(1, 7)), of(7, 1, 1));
    }

    private void lowestTerms() throws Exception {
        says("ROOTS: a and c without a common divisor but 1");
        dueRoots(withRoots(of(2, 6)), of(1, 3, 1));
        dueRoots(withRoots(of(24, 6), of(3, 6), of(4, 6)), of(4, 1, 1), of(1, 2, 1), of(2, 3, 1));
    }

    private void aboveNought() throws Exception {
        says("ROOTS: fractions 0 less a by c: none above 0");
        dueRoots(withRoots(of(-1, 1), of(-1, 2), of(1, 3)), of(1, 3, 1));
    }

    private void byCThenByA() throws Exception {
        says("ROOTS: by c, then by a");
        dueRoots(withRoots(of(1, 6), of(3, 2), of(24, 5), of(2, 1), of(1, 2), of(24, 1), of(0, 1), of(3, 4)),
            of(0, 1, 1), of(2, 1, 1), of(24, 1, 1), of(1, 2, 1), of(3, 2, 1), of(3, 4, 1), of(24, 5, 1), of(1, 6, 1));
    }

    private void howOftenMost() throws Exception {
        says("HOW OFTEN b is divided by s and a by c: as often as B");
        int[][] pairs = {of(0, 1), of(1, 1), of(24, 5), of(1, 6)};
        for (int[] pair : pairs) {
            int[][] all = {pair, pair, pair, pair, pair, pair, pair, pair};
            dueRoots(withRoots(all), of(pair[0], pair[1], 8));
            dueRoots(withRoots(pair, pair), of(pair[0], pair[1], 2));
        }
    }

    private void howOftenOfSeveral() throws Exception {
        says("HOW OFTEN: of each ROOT by itself");
        int[] half = of(1, 2);
        int[] nought = of(0, 1);
        dueRoots(withRoots(half, nought, half, nought, half, of(1, 1), half, of(1, 7)), of(0, 1, 2), of(1, 1, 1), of(1, 2, 4));
    }

    private void noRootAtAll() throws Exception {
        says("ROOTS: there are none");
        LoweredPowers x = withRoots(of(25, 1), of(1, 7), of(-3, 1));
        due("roots", x.roots(), 0);
        due("root", x.root(0, 0), NONE);
        due("root", x.root(0, 2), NONE);
    }
}
