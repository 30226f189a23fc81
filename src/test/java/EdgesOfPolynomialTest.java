/** The boundary cases of promises 1 to 10, a method for each sentence. */
public final class EdgesOfPolynomialTest extends Edges {
    private EdgesOfPolynomialTest() {
        super("EdgesOfPolynomialTest");
    }

    public static void main(String[] args) {
        new EdgesOfPolynomialTest().all();
    }

    private void all() {
        newF();
        newOperator();
        setAnswersWhatWas();
        setNone();
        setBad();
        setNoneAheadOfBad();
        ofEdges();
        degreeEdges();
        putAnswersWhatWas();
        putNone();
        putBad();
        putNoneAheadOfBad();
        getNone();
        getEachOfItsOwn();
        clearNone();
        clearAll();
        orderEdges();
        workNone();
        rightNone();
        rightDegree();
        rightBeyondItsDegree();
        rightState();
        rightNot();
        rightFirstNamed();
        checks.end();
    }

    private void newF() {
        says("1: F is x to the 2nd");
        dueF(new LoweredPowers(), 0, 0, 1);
        dueText(new LoweredPowers(), "x^2");
    }

    private void newOperator() {
        says("1: THE OPERATOR is all 0");
        LoweredPowers x = new LoweredPowers();
        for (int k = 0; k < 5; k++) {
            for (int i = 0; i < 5; i++) {
                for (int j = 0; j < 3; j++) {
                    due("get " + k + i + j, x.get(k, i, j), FAR);
                }
            }
        }
        due("clear", x.clear(), 0);
    }

    private void setAnswersWhatWas() {
        says("2: becomes v: what it was, and FAR");
        LoweredPowers x = new LoweredPowers();
        for (int i = 0; i < 5; i++) {
            due("first", x.set(i, 5003), i == 2 ? FAR + 1 : FAR);
            due("greatest", x.set(i, -5003), FAR + 5003);
            due("least", x.set(i, i), FAR - 5003);
        }
        dueF(x, 0, 1, 2, 3, 4);
    }

    private void setNone() {
        says("2: NONE: i");
        LoweredPowers x = new LoweredPowers();
        refusedBeyond(0, 4, NONE, i -> x.set(i, 1));
        dueF(x, 0, 0, 1);
    }

    private void setBad() {
        says("2: BAD: v is not -5003 .. 5003");
        LoweredPowers x = new LoweredPowers();
        for (int i = 0; i < 5; i++) {
            int at = i;
            refusedBeyond(-5003, 5003, BAD, v -> x.set(at, v));
        }
        dueF(x, 0, 0, 1);
    }

    private void setNoneAheadOfBad() {
        says("2: of several the first: NONE, BAD");
        LoweredPowers x = new LoweredPowers();
        refusedBeyond(0, 4, NONE, i -> x.set(i, 5004));
    }

    private void ofEdges() {
        says("3: NONE");
        LoweredPowers x = new LoweredPowers();
        x.set(0, -5003);
        x.set(4, 5003);
        refusedBeyond(0, 4, NONE, x::of);
        due("first", x.of(0), FAR - 5003);
        due("last", x.of(4), FAR + 5003);
    }

    private void degreeEdges() {
        says("4: DEGREE");
        due("new", new LoweredPowers().degree(), 2);
        due("of 0", by("0").degree(), -1);
        due("of a number", by("7").degree(), 0);
        due("highest", by("x^4").degree(), 4);
    }

    private void putAnswersWhatWas() {
        says("5: becomes v: what it was, and FAR");
        LoweredPowers x = new LoweredPowers();
        for (int corner = 0; corner < 8; corner++) {
            int k = (corner & 1) * 4;
            int i = (corner >> 1 & 1) * 4;
            int j = (corner >> 2) * 2;
            due("first", x.put(k, i, j, 5003), FAR);
            due("greatest", x.put(k, i, j, -5003), FAR + 5003);
            due("least", x.put(k, i, j, corner), FAR - 5003);
            due("last", x.get(k, i, j), FAR + corner);
        }
    }

    private void putNone() {
        says("5: NONE: k, i, j");
        LoweredPowers x = new LoweredPowers();
        refusedBeyond(0, 4, NONE, k -> x.put(k, 0, 0, 1));
        refusedBeyond(0, 4, NONE, i -> x.put(0, i, 0, 1));
        refusedBeyond(0, 2, NONE, j -> x.put(0, 0, j, 1));
        due("nothing came", x.count(1), 0);
    }

    private void putBad() {
        says("5: BAD: v is not -5003 .. 5003");
        LoweredPowers x = new LoweredPowers();
        refusedBeyond(-5003, 5003, BAD, v -> x.put(0, 0, 0, v));
        refusedBeyond(-5003, 5003, BAD, v -> x.put(4, 4, 2, v));
        due("nothing came", x.count(1), 0);
    }

    private void putNoneAheadOfBad() {
        says("5: of several the first: NONE, BAD");
        LoweredPowers x = new LoweredPowers();
        due("k", x.put(5, 0, 0, 5004), NONE);
        due("i", x.put(0, -1, 0, -5004), NONE);
        due("j", x.put(0, 0, 3, GREATEST), NONE);
    }

    private void getNone() {
        says("6: NONE");
        LoweredPowers x = new LoweredPowers();
        refusedBeyond(0, 4, NONE, k -> x.get(k, 0, 0));
        refusedBeyond(0, 4, NONE, i -> x.get(0, i, 0));
        refusedBeyond(0, 2, NONE, j -> x.get(0, 0, j));
    }

    private void getEachOfItsOwn() {
        says("6: Number of THE OPERATOR: each place is one of its own");
        LoweredPowers x = new LoweredPowers();
        for (int n = 0; n < 75; n++) {
            x.put(n / 15, n / 3 % 5, n % 3, n - 40);
        }
        for (int n = 0; n < 75; n++) {
            due("get " + n, x.get(n / 15, n / 3 % 5, n % 3), FAR + n - 40);
        }
    }

    private void clearNone() {
        says("7: how many were not 0: none");
        LoweredPowers x = new LoweredPowers();
        due("new", x.clear(), 0);
        x.put(1, 1, 1, 3);
        x.put(1, 1, 1, 0);
        due("0 again", x.clear(), 0);
    }

    private void clearAll() {
        says("7: how many were not 0: all");
        LoweredPowers x = new LoweredPowers();
        for (int n = 0; n < 75; n++) {
            x.put(n / 15, n / 3 % 5, n % 3, n % 2 == 0 ? 1 : -5003);
        }
        due("all", x.clear(), 75);
        due("none then", x.count(1), 0);
        due("first", x.get(0, 0, 0), FAR);
        due("last", x.get(4, 4, 2), FAR);
        due("none then", x.clear(), 0);
        dueF(x, 0, 0, 1);
    }

    private void orderEdges() {
        says("8: ORDER of THE OPERATOR");
        LoweredPowers x = new LoweredPowers();
        due("none", x.order(), 0);
        x.put(0, 4, 2, 1);
        due("k 0", x.order(), 0);
        x.put(1, 0, 0, 1);
        due("k 1", x.order(), 1);
        x.put(4, 0, 0, 1);
        due("k 4", x.order(), 4);
        x.search(2, 0, 0);
        due("not FOUND's", x.order(), 4);
    }

    private void workNone() {
        says("9: NONE: u (0 .. 24), v (0 .. 8)");
        LoweredPowers x = new LoweredPowers();
        refusedBeyond(0, 24, NONE, u -> x.work(u, 0));
        refusedBeyond(0, 8, NONE, v -> x.work(0, v));
        due("both", x.work(25, 9), NONE);
        due("first", x.work(0, 0), FAR);
        due("last", x.work(24, 8), FAR);
        tell(x, "0");
        due("of F that is 0", x.work(24, 8), FAR);
        refusedBeyond(0, 24, NONE, u -> x.work(u, 8));
    }

    private void rightNone() {
        says("10: NONE: v below -1, above 8");
        LoweredPowers x = new LoweredPowers();
        refusedBeyond(-1, 8, NONE, x::right);
        due("least", x.right(-1), -1);
        due("greatest", x.right(8), FAR);
    }

    private void rightDegree() {
        says("10: v -1: its degree (-1 of 0)");
        LoweredPowers x = by("x");
        due("of 0", x.right(-1), -1);
        x.put(1, 0, 0, 1);
        due("s and 1", x.right(-1), 1);
        x.put(1, 0, 2, 1);
        due("times s to the 2nd, and 1", x.right(-1), 3);
        x.put(1, 0, 0, 0);
        x.put(1, 0, 2, 0);
        x.put(0, 0, 0, -1);
        x.put(0, 0, 1, -1);
        x.put(1, 1, 0, 1);
        // x times the derivative of x to the s and 1 is s and 1 times it: nothing is left
        due("0 of an operator that is not 0", x.right(-1), -1);
        due("0 of an operator that is not 0", x.right(0), FAR);
    }

    private void rightBeyondItsDegree() {
        says("10: 0 beyond its degree");
        LoweredPowers x = by("x");
        x.put(1, 0, 0, 1);
        due("its degree", x.right(1), FAR + 1);
        allAnswer(2, 8, FAR, x::right);
    }

    private void rightState() {
        says("10: STATE: DEGREE of F is below 1");
        LoweredPowers x = by("7");
        allAnswer(-1, 8, STATE, x::right);
        x.set(0, 0);
        allAnswer(-1, 8, STATE, x::right);
        x.set(1, 1);
        due("DEGREE 1", x.right(-1), -1);
    }

    private void rightNot() {
        says("10: NOT: there is no RIGHT");
        LoweredPowers x = by("x");
        x.put(1, 1, 0, 1);
        allAnswer(-1, 8, NOT, x::right);
        x.clear();
        x.put(0, 0, 0, 1);
        allAnswer(-1, 8, NOT, x::right);
    }

    private void rightFirstNamed() {
        says("10: of several the first: NONE, STATE, NOT");
        LoweredPowers x = by("7");
        x.put(0, 0, 0, 1);
        refusedBeyond(-1, 8, NONE, x::right);
        due("STATE ahead of NOT", x.right(0), STATE);
        tell(x, "x");
        refusedBeyond(-1, 8, NONE, x::right);
        due("NOT", x.right(0), NOT);
    }
}
