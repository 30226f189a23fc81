/** The boundary cases that "Terms" names, a method for each sentence. */
public final class EdgesOfTermsTest extends Edges {
    private EdgesOfTermsTest() {
        super("EdgesOfTermsTest");
    }

    public static void main(String[] args) {
        new EdgesOfTermsTest().all();
    }

    private void all() {
        numbersGoRoundAbove();
        numbersGoRoundBelow();
        numbersGoRoundToNought();
        numbersGoRoundInWork();
        numbersGoRoundInDirect();
        degreeOfNone();
        degreeAtEachPower();
        orderOfAllNought();
        orderByEachNumber();
        foundIsNoneAtFirst();
        foundIsAnotherOne();
        workOfOrderNought();
        workOverTheLowestPower();
        workOfTwoDerivatives();
        workOfTheHighestPowers();
        workOfFWithoutX();
        rightOfOrderNought();
        rightOfOrderOne();
        rightOfHigherOrders();
        easyEdges();
        directOfTheLeastPower();
        directOfTheHighestPower();
        checkedByPowerNought();
        checks.end();
    }

    private void numbersGoRoundAbove() {
        says("modulo 10007, told as -5003 .. 5003: above");
        LoweredPowers x = by("x");
        x.set(0, 5003);
        x.plan(0, 1);
        due("5004", x.ahead(0), FAR - 5003);
        due("run", x.run(), 1);
        dueF(x, -5003, 1);
        x = by("999+999+999+999+999+8");
        due("5003", x.of(0), FAR + 5003);
        x = by("999+999+999+999+999+9");
        due("5004", x.of(0), FAR - 5003);
        due("1/2", x.easy(2, 0), FAR - 5003);
    }

    private void numbersGoRoundBelow() {
        says("modulo 10007, told as -5003 .. 5003: below");
        LoweredPowers x = by("x");
        x.set(0, -5003);
        x.plan(0, -1);
        due("-5004", x.ahead(0), FAR + 5003);
        due("run", x.run(), 1);
        dueF(x, 5003, 1);
        x = by("-999-999-999-999-999-8");
        due("-5003", x.of(0), FAR - 5003);
        x = by("-999-999-999-999-999-9");
        due("-5004", x.of(0), FAR + 5003);
    }

    private void numbersGoRoundToNought() {
        says("modulo 10007: 10007 is 0");
        LoweredPowers x = new LoweredPowers();
        due("read", tell(x, "999+999+999+999+999+999+999+999+999+999+17"), 9);
        due("degree", x.degree(), -1);
        due("read", tell(x, "-999x-999x-999x-999x-999x-999x-999x-999x-999x-999x-17x"), 9);
        x.set(0, 5003);
        x.set(1, 2502);
        x.plan(0, 2);
        due("5003 and 5004", x.ahead(0), FAR);
        x.unplan();
        x.plan(1, 2);
        due("10006", x.ahead(0), FAR - 1);
        due("5004", x.ahead(1), FAR - 5003);
    }

    private void numbersGoRoundInWork() {
        says("modulo 10007: WORK");
        LoweredPowers x = by("2x");
        x.put(1, 0, 0, 5003);
        due("10006", x.work(0, 0), FAR - 1);
        due("10006", x.work(0, 1), FAR - 1);
        due("10006", x.right(0), FAR - 1);
        x.set(1, -2);
        due("-10006", x.work(0, 0), FAR + 1);
        x.put(1, 0, 0, -5003);
        x.set(1, -5003);
        due("5003 times 5003", x.work(0, 0), FAR + 2502);
    }

    private void numbersGoRoundInDirect() {
        says("modulo 10007: DIRECT");
        LoweredPowers x = by("2x");
        x.put(1, 0, 0, 5003);
        due("10006", x.direct(0, 0), FAR - 1);
        x.put(1, 0, 0, -5003);
        due("-10006", x.direct(0, 0), FAR + 1);
    }

    private void degreeOfNone() {
        says("DEGREE: -1: there is none");
        LoweredPowers x = new LoweredPowers();
        x.set(2, 0);
        due("degree", x.degree(), -1);
        due("image", x.image(), -1);
        due("undo", x.undo(), -1);
        due("run", x.run(), -1);
    }

    private void degreeAtEachPower() {
        says("DEGREE: the greatest i whose number is not 0");
        LoweredPowers x = by("0");
        for (int i = 0; i < 5; i++) {
            x.set(i, i % 2 == 0 ? -5003 : 1);
            due("degree", x.degree(), i);
        }
        for (int i = 4; i >= 0; i--) {
            x.set(i, 0);
            due("degree", x.degree(), i - 1);
        }
    }

    private void orderOfAllNought() {
        says("ORDER: 0, if all are 0");
        LoweredPowers x = new LoweredPowers();
        due("order", x.order(), 0);
        x.put(3, 1, 1, 1);
        x.put(3, 1, 1, 0);
        due("order", x.order(), 0);
        x.put(4, 0, 0, 1);
        x.clear();
        due("order", x.order(), 0);
    }

    private void orderByEachNumber() {
        says("ORDER: the greatest k of which a number is not 0");
        LoweredPowers x = new LoweredPowers();
        for (int k = 0; k < 5; k++) {
            for (int i = 0; i < 5; i++) {
                for (int j = 0; j < 3; j++) {
                    x.put(k, i, j, -1);
                    due("order of " + k + i + j, x.order(), k);
                    x.put(k, i, j, 0);
                }
            }
        }
    }

    private void foundIsNoneAtFirst() {
        says("FOUND is another one (none at first)");
        LoweredPowers x = new LoweredPowers();
        due("count", x.count(6), 0);
        due("found", x.found(-1), STATE);
        due("found", x.found(0), STATE);
        due("foundOf", x.foundOf(0, 0, 0), STATE);
    }

    private void foundIsAnotherOne() {
        says("THE OPERATOR is one; FOUND is another one");
        LoweredPowers x = new LoweredPowers();
        x.search(2, 0, 0);
        due("the operator is as it was", x.count(1), 0);
        x.take();
        x.put(2, 0, 0, 7);
        x.put(0, 0, 0, 7);
        due("found is as it was", x.foundOf(2, 0, 0), FAR + 2502);
        due("found is as it was", x.foundOf(0, 0, 0), FAR);
        x.clear();
        due("found is as it was", x.foundOf(2, 0, 0), FAR + 2502);
    }

    private void workOfOrderNought() {
        says("WORK: with ORDER 0 over F to the power s and 1");
        LoweredPowers x = by("3x+1");
        due("all 0", x.work(0, 0), FAR);
        x.put(0, 4, 2, 7);
        due("the number alone", x.work(4, 2), FAR + 7);
        due("not times F", x.work(5, 2), FAR);
    }

    private void workOverTheLowestPower() {
        says("WORK: lower derivatives over the power s and 1 less ORDER, too");
        LoweredPowers x = by("x+1");
        x.put(0, 0, 0, 1);
        due("F to the 0", x.work(0, 0), FAR + 1);
        x.put(4, 0, 0, 1);
        // F to the 4th, and (s+1) s (s-1) (s-2) of the derivatives
        int[] fourth = {1, 4, 6, 4, 1};
        for (int u = 0; u < 5; u++) {
            due("F to the 4th", x.work(u, 0), FAR + fourth[u]);
        }
        int[] falling = {0, 2, -1, -2, 1};
        for (int v = 1; v < 5; v++) {
            due("derivatives", x.work(0, v), FAR + falling[v]);
        }
        due("derivatives", x.work(0, 5), FAR);
    }

    private void workOfTwoDerivatives() {
        says("WORK: derivative of g times F, and e times g times derivative of F");
        LoweredPowers x = by("x^2+7");
        x.put(2, 0, 0, 1);
        // g is 2x (s+1) first: then 2 (s+1) F, and s times g times 2x
        due("1", x.work(0, 0), FAR + 14);
        due("s", x.work(0, 1), FAR + 14);
        due("x^2", x.work(2, 0), FAR + 2);
        due("x^2 s", x.work(2, 1), FAR + 6);
        due("x^2 s^2", x.work(2, 2), FAR + 4);
        due("x", x.work(1, 1), FAR);
    }

    private void workOfTheHighestPowers() {
        says("WORK: the highest powers of x and s that come up");
        LoweredPowers x = new LoweredPowers();
        tell(x, "x^4");
        x.put(4, 4, 2, 1);
        x.put(0, 4, 2, 3);
        due("x to the 20th", x.work(20, 2), FAR + 3);
        due("s to the 6th", x.work(16, 6), FAR + 256);
        due("nothing above", x.work(21, 2), FAR);
        due("nothing above", x.work(24, 0), FAR);
        due("nothing above", x.work(16, 7), FAR);
        due("nothing above", x.work(16, 8), FAR);
        due("nothing above", x.work(24, 8), FAR);
    }

    private void workOfFWithoutX() {
        says("WORK: of F without x, and of F that is 0");
        LoweredPowers x = by("5");
        x.put(0, 0, 0, 1);
        x.put(2, 0, 0, 1);
        due("F to the 2nd", x.work(0, 0), FAR + 25);
        due("no derivative", x.work(0, 1), FAR);
        x.set(0, 0);
        due("0", x.work(0, 0), FAR);
        x.put(2, 0, 0, 0);
        due("order 0 leaves the number", x.work(0, 0), FAR + 1);
    }

    private void rightOfOrderNought() {
        says("RIGHT: with ORDER 0 its polynomial times F is b");
        LoweredPowers x = by("x+1");
        due("b is 0", x.right(-1), -1);
        due("b is 0", x.right(0), FAR);
        x.put(0, 0, 0, 1);
        due("F is no b", x.right(-1), NOT);
        x.put(0, 0, 0, 0);
        x.put(0, 0, 2, 1);
        due("F times s to the 2nd is no b", x.right(0), NOT);
        x.clear();
        x.put(1, 0, 0, 1);
        due("s and 1", x.right(0), FAR + 1);
        x.clear();
        due("b is 0, whatever it was before", x.right(-1), -1);
        due("b is 0, whatever it was before", x.right(0), FAR);
    }

    private void rightOfOrderOne() {
        says("RIGHT: with ORDER 1 the WORK's polynomial is b times F to the power 0");
        LoweredPowers x = by("4x+1");
        x.put(1, 0, 0, 1);
        due("degree", x.right(-1), 1);
        due("4 (s+1)", x.right(0), FAR + 4);
        due("4 (s+1)", x.right(1), FAR + 4);
        x.put(1, 1, 0, 1);
        due("x is left", x.right(-1), NOT);
        x.put(1, 1, 0, 0);
        x.put(0, 0, 0, 1);
        due("F is left", x.right(-1), NOT);
    }

    private void rightOfHigherOrders() {
        says("RIGHT: with ORDER 1 or more b times F to the power ORDER less 1");
        LoweredPowers x = by("x^4");
        x.put(4, 0, 0, 1);
        int[] b = {24, 200, 560, 640, 256};
        due("degree", x.right(-1), 4);
        for (int v = 0; v < 5; v++) {
            due("at " + v, x.right(v), FAR + b[v]);
        }
        x.put(4, 0, 0, 0);
        x.put(4, 0, 2, 1);
        due("times s to the 2nd", x.right(-1), 6);
        due("times s to the 2nd", x.right(6), FAR + 256);
        due("times s to the 2nd", x.right(1), FAR);
        x.put(4, 4, 2, 1);
        due("more x than F to the 3rd has", x.right(-1), NOT);
        x.put(4, 4, 2, 0);
        x.put(3, 0, 0, 1);
        due("less x than F to the 3rd has", x.right(-1), NOT);
        tell(x, "x");
        x.clear();
        x.put(2, 0, 0, 1);
        due("s (s+1) without x is not b times x", x.right(-1), NOT);
    }

    private void easyEdges() {
        says("EASY of m (1 .. 4): the product of s and k by m, for k 1 .. m");
        LoweredPowers x = new LoweredPowers();
        due("s and 1", x.easy(1, 0), FAR + 1);
        due("s and 1", x.easy(1, 1), FAR + 1);
        // (s+1/4)(s+1/2)(s+3/4)(s+1), as a search for x to the 4th finds it
        tell(x, "x^4");
        due("search", x.search(4, 0, 0), 4);
        for (int v = 0; v < 5; v++) {
            due("at " + v, x.easy(4, v), x.found(v));
        }
        due("5/2", x.easy(4, 3), FAR - 5001);
    }

    private void directOfTheLeastPower() {
        says("DIRECT of n (0 .. 3): n 0");
        LoweredPowers x = by("3x^2+5");
        x.put(0, 1, 0, 1);
        x.put(0, 1, 1, 100);
        x.put(0, 1, 2, 1000);
        x.put(2, 0, 0, 1);
        due("6", x.direct(0, 0), FAR + 6);
        due("s to the 0 is 1, the others are 0", x.direct(0, 1), FAR + 5);
        due("s to the 0 is 1, the others are 0", x.direct(0, 3), FAR + 3);
        // 1101 times 25, which is 3 times 10007 less 2496
        due("all are there", x.direct(1, 1), FAR - 2496);
        x.set(0, 0);
        x.set(2, 0);
        due("F is 0", x.direct(0, 0), FAR);
    }

    private void directOfTheHighestPower() {
        says("DIRECT of n (0 .. 3): n 3");
        LoweredPowers x = by("x^4");
        x.put(0, 4, 2, 1);
        due("x to the 20th", x.direct(3, 20), FAR + 9);
        x.put(0, 4, 2, 0);
        x.put(4, 4, 2, 1);
        // 9 times 43680, which is 39 times 10007 and 2847
        due("x to the 16th", x.direct(3, 16), FAR + 2847);
        due("none above", x.direct(3, 20), FAR);
    }

    private void checkedByPowerNought() {
        says("CHECKED: b (with s being n) times F to the power n: n 0");
        LoweredPowers x = by("x+1");
        x.search(1, 0, 0);
        x.take();
        due("1 times F to the 0", x.checked(0), 1);
        x.set(1, 2);
        due("2 is not 1", x.checked(0), 0);
        x.put(1, 0, 0, -5003);
        due("half of 2", x.checked(0), 1);
        tell(x, "0");
        due("of F that is 0, F to the 0 is 1", x.checked(0), 0);
        x.put(0, 0, 0, 1);
        due("of F that is 0, F to the 1 is 0", x.checked(1), 1);
    }
}
