/** The boundary cases of promises 11 to 19, a method for each sentence. */
public final class EdgesOfSearchTest extends Edges {
    private EdgesOfSearchTest() {
        super("EdgesOfSearchTest");
    }

    public static void main(String[] args) {
        new EdgesOfSearchTest().all();
    }

    private void all() {
        searchBad();
        searchState();
        searchNot();
        searchFirstNamed();
        searchLeast();
        searchGreatest();
        searchThroughAll();
        searchOrderTooLow();
        searchDegreeTooLow();
        searchPowersOfSTooLow();
        searchColumnsThatAreSums();
        searchAnew();
        foundState();
        foundNone();
        foundFirstNamed();
        foundOfNone();
        foundOfState();
        foundOfBeyondTheSearch();
        takeState();
        takeOrder();
        rootsState();
        rootsInTheirOrder();
        rootsWithoutCommonDivisor();
        rootNone();
        rootFirstNamed();
        easyBad();
        easyNone();
        easyFirstNamed();
        directBad();
        directNone();
        directFirstNamed();
        checkedBad();
        checkedState();
        checkedFirstNamed();
        checkedByFoundAlone();
        checkedUpToTheHighestPower();
        checks.end();
    }

    private void searchBad() {
        says("11: BAD: K (1 .. 4), D (0 .. 4), S (0 .. 2)");
        LoweredPowers x = by("x");
        refusedBeyond(1, 4, BAD, k -> x.search(k, 0, 0));
        refusedBeyond(0, 4, BAD, d -> x.search(1, d, 0));
        refusedBeyond(0, 2, BAD, s -> x.search(1, 0, s));
        allAnswer(1, 4, 1, k -> x.search(k, 0, 0));
        allAnswer(0, 4, 1, d -> x.search(1, d, 0));
        allAnswer(0, 2, 1, s -> x.search(1, 0, s));
    }

    private void searchState() {
        says("11: STATE: DEGREE of F is below 1");
        LoweredPowers x = by("x");
        x.search(1, 0, 0);
        tell(x, "9");
        due("DEGREE 0", x.search(1, 0, 0), STATE);
        dueB(x, 1, 1);
        tell(x, "0");
        due("DEGREE -1", x.search(4, 4, 2), STATE);
        dueB(x, 1, 1);
        x.set(1, -5003);
        due("DEGREE 1", x.search(1, 0, 0), 1);
    }

    private void searchNot() {
        says("11: NOT: there is none; FOUND is none any more");
        LoweredPowers x = new LoweredPowers();
        x.search(2, 0, 0);
        x.take();
        due("order too low", x.search(1, 4, 2), NOT);
        due("found", x.found(-1), STATE);
        due("foundOf", x.foundOf(2, 0, 0), STATE);
        due("take", x.take(), STATE);
        due("roots", x.roots(), STATE);
        due("checked", x.checked(0), STATE);
        due("count", x.count(6), 0);
        due("THE OPERATOR stays", x.get(2, 0, 0), FAR + 2502);
        due("again", x.search(1, 4, 2), NOT);
    }

    private void searchFirstNamed() {
        says("11: of several the first: BAD, STATE, NOT");
        LoweredPowers x = by("9");
        due("BAD ahead of STATE", x.search(0, 0, 0), BAD);
        due("BAD ahead of STATE", x.search(1, 5, 0), BAD);
        due("BAD ahead of STATE", x.search(1, 0, 3), BAD);
        tell(x, "x^4");
        x.search(4, 0, 0);
        due("BAD ahead of NOT", x.search(1, 0, -1), BAD);
        due("FOUND stays", x.found(-1), 4);
    }

    private void searchLeast() {
        says("SEARCH: the least K, D, S");
        LoweredPowers x = by("x+7");
        due("search", x.search(1, 0, 0), 1);
        dueB(x, 1, 1);
        due("the derivative", x.foundOf(1, 0, 0), FAR + 1);
        due("nothing else", x.foundOf(0, 0, 0), FAR);
        tell(x, "x^2");
        due("search", x.search(1, 0, 0), NOT);
    }

    private void searchGreatest() {
        says("SEARCH: the greatest K, D, S");
        LoweredPowers x = by("x^4");
        due("search", x.search(4, 4, 2), 4);
        for (int v = 0; v < 5; v++) {
            due("easy", x.found(v), x.easy(4, v));
        }
        due("take", x.take(), 4);
        due("one number", x.count(1), 1);
        due("four derivatives", x.direct(0, 0), x.found(0));
    }

    private void searchThroughAll() {
        says("SEARCH: v 0, 1, .. 8: none of all of them is a sum");
        LoweredPowers x = by("x^4+x^3");
        due("search", x.search(4, 4, 2), NOT);
        due("none", x.count(6), 0);
        tell(x, "x^4-2x^2+1");
        due("the next search starts anew", x.search(4, 4, 2), 2);
        dueB(x, -5003, -5002, 1);
        x.take();
        allAnswer(0, 3, 1, x::checked);
    }

    private void searchOrderTooLow() {
        says("SEARCH: K: a power m of x is found by m derivatives, by no less");
        String[] powers = {"x", "x^2", "x^3", "x^4"};
        for (int m = 1; m <= 4; m++) {
            LoweredPowers x = by(powers[m - 1]);
            for (int k = 1; k <= 4; k++) {
                due(powers[m - 1] + " by " + k, x.search(k, 4, 2), k < m ? NOT : m);
                due(powers[m - 1] + " by " + k, x.search(k, 0, 0), k < m ? NOT : m);
            }
        }
    }

    private void searchDegreeTooLow() {
        says("SEARCH: D: x to the 2nd less 1 wants x times the derivative");
        LoweredPowers x = by("x^2-1");
        due("D 0", x.search(1, 0, 2), NOT);
        due("D 1", x.search(1, 1, 1), 1);
        due("D 1, S 2", x.search(1, 1, 2), 1);
    }

    private void searchPowersOfSTooLow() {
        says("SEARCH: S: x to the 2nd less 1 wants s");
        LoweredPowers x = by("x^2-1");
        due("S 0", x.search(1, 4, 0), NOT);
        due("S 1", x.search(1, 1, 1), 1);
    }

    private void searchColumnsThatAreSums() {
        says("SEARCH: a COLUMN that is such a sum of those ahead of it has number 0");
        int[][] searches = {{1, 1, 1}, {1, 4, 1}, {1, 4, 2}, {2, 4, 2}, {4, 4, 2}};
        for (int[] by : searches) {
            LoweredPowers x = by("x^2-1");
            due("search", x.search(by[0], by[1], by[2]), 1);
            dueB(x, 1, 1);
            // (s+1) F to the s is half of x times the derivative, less s and 1 times F
            due("x times the derivative", x.foundOf(1, 1, 0), FAR - 5003);
            due("1", x.foundOf(0, 0, 0), FAR - 1);
            due("s", x.foundOf(0, 0, 1), FAR - 1);
            due("order", x.take(), 1);
            due("nothing else", x.count(1), 3);
        }
    }

    private void searchAnew() {
        says("SEARCH: what was FOUND before leaves nothing");
        LoweredPowers x = by("x^4");
        x.search(4, 0, 0);
        tell(x, "x");
        due("search", x.search(1, 0, 0), 1);
        dueB(x, 1, 1);
        due("foundOf", x.foundOf(4, 0, 0), FAR);
        due("roots", x.roots(), 1);
        due("take", x.take(), 1);
        due("one number", x.count(1), 1);
    }

    private void foundState() {
        says("12: STATE: nothing is FOUND");
        LoweredPowers x = new LoweredPowers();
        allAnswer(-1, 8, STATE, x::found);
    }

    private void foundNone() {
        says("12: NONE: v below -1, above B");
        LoweredPowers x = new LoweredPowers();
        x.search(2, 0, 0);
        refusedBeyond(-1, 2, NONE, x::found);
        due("v -1: B", x.found(-1), 2);
        due("at B", x.found(2), FAR + 1);
        tell(x, "x^4");
        x.search(4, 0, 0);
        refusedBeyond(-1, 4, NONE, x::found);
        due("at B", x.found(4), FAR + 1);
        due("v 8 is above B", x.found(8), NONE);
    }

    private void foundFirstNamed() {
        says("12: of several the first: STATE, NONE");
        LoweredPowers x = new LoweredPowers();
        refusedBeyond(-1, 8, STATE, x::found);
    }

    private void foundOfNone() {
        says("13: NONE");
        LoweredPowers x = new LoweredPowers();
        x.search(2, 0, 0);
        refusedBeyond(0, 4, NONE, k -> x.foundOf(k, 0, 0));
        refusedBeyond(0, 4, NONE, i -> x.foundOf(0, i, 0));
        refusedBeyond(0, 2, NONE, j -> x.foundOf(0, 0, j));
    }

    private void foundOfState() {
        says("13: NONE; STATE, in this order");
        LoweredPowers x = new LoweredPowers();
        due("first", x.foundOf(0, 0, 0), STATE);
        due("last", x.foundOf(4, 4, 2), STATE);
        refusedBeyond(0, 4, NONE, k -> x.foundOf(k, 0, 0));
        refusedBeyond(0, 4, NONE, i -> x.foundOf(0, i, 0));
        refusedBeyond(0, 2, NONE, j -> x.foundOf(0, 0, j));
    }

    private void foundOfBeyondTheSearch() {
        says("13: Number of FOUND: beyond K, D, S it is 0");
        LoweredPowers x = new LoweredPowers();
        x.search(2, 0, 0);
        due("K", x.foundOf(2, 0, 0), FAR + 2502);
        due("above K", x.foundOf(3, 0, 0), FAR);
        due("above D", x.foundOf(2, 1, 0), FAR);
        due("above S", x.foundOf(2, 0, 1), FAR);
        due("last", x.foundOf(4, 4, 2), FAR);
    }

    private void takeState() {
        says("14: STATE");
        LoweredPowers x = new LoweredPowers();
        x.put(4, 4, 2, 9);
        due("take", x.take(), STATE);
        due("THE OPERATOR stays", x.get(4, 4, 2), FAR + 9);
    }

    private void takeOrder() {
        says("14: THE OPERATOR becomes FOUND: its ORDER");
        LoweredPowers x = by("x");
        x.put(4, 4, 2, 9);
        x.search(4, 4, 2);
        due("below K", x.take(), 1);
        due("what was is gone", x.get(4, 4, 2), FAR);
        due("what was found", x.get(1, 0, 0), FAR + 1);
        due("all of it", x.count(1), 1);
        due("FOUND stays", x.found(-1), 1);
        due("again", x.take(), 1);
    }

    private void rootsState() {
        says("15: STATE");
        LoweredPowers x = new LoweredPowers();
        due("new", x.roots(), STATE);
        x.search(2, 0, 0);
        due("found", x.roots(), 2);
        x.search(1, 0, 0);
        due("none any more", x.roots(), STATE);
    }

    private void dueRoots(LoweredPowers x, int[]... roots) {
        due("roots", x.roots(), roots.length);
        for (int i = 0; i < roots.length; i++) {
            for (int what = 0; what < 3; what++) {
                due("root " + i + " " + what, x.root(i, what), roots[i][what]);
            }
        }
        due("no more", x.root(roots.length, 0), NONE);
    }

    private void rootsInTheirOrder() {
        says("ROOTS: by c, then by a");
        LoweredPowers x = by("x^3");
        x.search(3, 0, 0);
        dueRoots(x, new int[] {1, 1, 1}, new int[] {1, 3, 1}, new int[] {2, 3, 1});
    }

    private void rootsWithoutCommonDivisor() {
        says("ROOTS: a and c without a common divisor but 1");
        LoweredPowers x = by("x^4");
        x.search(4, 0, 0);
        // 2 by 4 is told as 1 by 2, 4 by 4 as 1 by 1, and neither again as 3 by 6 or 6 by 6
        dueRoots(x, new int[] {1, 1, 1}, new int[] {1, 2, 1}, new int[] {1, 4, 1}, new int[] {3, 4, 1});
        tell(x, "x");
        x.search(1, 0, 0);
        dueRoots(x, new int[] {1, 1, 1});
    }

    private void rootNone() {
        says("16: NONE");
        LoweredPowers x = new LoweredPowers();
        x.search(2, 0, 0);
        for (int what = 0; what < 3; what++) {
            int of = what;
            refusedBeyond(0, 1, NONE, i -> x.root(i, of));
        }
        refusedBeyond(0, 2, NONE, what -> x.root(0, what));
        refusedBeyond(0, 2, NONE, what -> x.root(1, what));
        due("last", x.root(1, 2), 1);
    }

    private void rootFirstNamed() {
        says("16: STATE (ahead of NONE)");
        LoweredPowers x = new LoweredPowers();
        due("root 0", x.root(0, 0), STATE);
        refusedBeyond(0, 8, STATE, i -> x.root(i, 0));
        refusedBeyond(0, 2, STATE, what -> x.root(0, what));
    }

    private void easyBad() {
        says("17: BAD: m");
        LoweredPowers x = new LoweredPowers();
        refusedBeyond(1, 4, BAD, m -> x.easy(m, 0));
        allAnswer(1, 4, FAR + 1, m -> x.easy(m, m));
    }

    private void easyNone() {
        says("17: NONE: v (0 .. m)");
        LoweredPowers x = new LoweredPowers();
        for (int m = 1; m <= 4; m++) {
            int of = m;
            refusedBeyond(0, m, NONE, v -> x.easy(of, v));
        }
    }

    private void easyFirstNamed() {
        says("17: of several the first: BAD, NONE");
        LoweredPowers x = new LoweredPowers();
        refusedBeyond(1, 4, BAD, m -> x.easy(m, -1));
        due("v is not above that m", x.easy(5, 6), BAD);
    }

    private void directBad() {
        says("18: BAD: n");
        LoweredPowers x = new LoweredPowers();
        x.put(0, 0, 0, 1);
        refusedBeyond(0, 3, BAD, n -> x.direct(n, 0));
        allAnswer(0, 3, FAR + 1, n -> x.direct(n, 2 * n + 2));
    }

    private void directNone() {
        says("18: NONE: u (0 .. 20)");
        LoweredPowers x = new LoweredPowers();
        refusedBeyond(0, 20, NONE, u -> x.direct(0, u));
        refusedBeyond(0, 20, NONE, u -> x.direct(3, u));
        due("first", x.direct(3, 0), FAR);
        due("last", x.direct(3, 20), FAR);
    }

    private void directFirstNamed() {
        says("18: of several the first: BAD, NONE");
        LoweredPowers x = new LoweredPowers();
        refusedBeyond(0, 3, BAD, n -> x.direct(n, 21));
    }

    private void checkedBad() {
        says("19: BAD");
        LoweredPowers x = new LoweredPowers();
        x.search(2, 0, 0);
        x.take();
        refusedBeyond(0, 3, BAD, x::checked);
        allAnswer(0, 3, 1, x::checked);
    }

    private void checkedState() {
        says("19: STATE: nothing is FOUND");
        LoweredPowers x = new LoweredPowers();
        allAnswer(0, 3, STATE, x::checked);
    }

    private void checkedFirstNamed() {
        says("19: of several the first: BAD, STATE");
        refusedBeyond(0, 3, BAD, new LoweredPowers()::checked);
    }

    private void checkedByFoundAlone() {
        says("19: Whether it is CHECKED: THE OPERATOR by FOUND's b");
        LoweredPowers x = new LoweredPowers();
        x.search(2, 0, 0);
        allAnswer(0, 3, 0, x::checked);
        x.put(2, 0, 0, 2502);
        allAnswer(0, 3, 1, x::checked);
        x.put(4, 4, 0, 1);
        // four derivatives of x to the 2nd are 0, those of its 2nd power are not
        due("n 0", x.checked(0), 1);
        due("n 1", x.checked(1), 0);
    }

    private void checkedUpToTheHighestPower() {
        says("19: CHECKED: at every power of x, the 20th, too");
        LoweredPowers x = by("x^4");
        x.search(4, 0, 0);
        x.take();
        allAnswer(0, 3, 1, x::checked);
        x.put(0, 4, 0, 1);
        allAnswer(0, 3, 0, x::checked);
    }
}
