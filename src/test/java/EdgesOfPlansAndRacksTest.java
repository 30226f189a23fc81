/** The boundary cases of promises 26 to 33, a method for each sentence. */
public final class EdgesOfPlansAndRacksTest extends Edges {
    private EdgesOfPlansAndRacksTest() {
        super("EdgesOfPlansAndRacksTest");
    }

    public static void main(String[] args) {
        new EdgesOfPlansAndRacksTest().all();
    }

    private void all() {
        planNone();
        planBad();
        planFull();
        planFirstNamed();
        movedEdges();
        timesEdges();
        turnedEdges();
        derivativeEdges();
        argumentEdges();
        unplanEmpty();
        unplanFull();
        runEmpty();
        runFull();
        runOneBehindTheOther();
        aheadNone();
        aheadChangesNothing();
        rackNone();
        rackBad();
        rackBelow();
        rackNothing();
        rackFirstNamed();
        rackLeastAndMost();
        rackAnew();
        storeNone();
        storeMissing();
        storePlace();
        storeCast();
        storeFirstNamed();
        thingVoid();
        thingBesideAnotherRack();
        thingEdges();
        copiedNone();
        copiedMissing();
        copiedFirstNamed();
        copiedOfItsOwn();
        copiedEdges();
        checks.end();
    }

    private void planNone() {
        says("26: NONE: what");
        LoweredPowers x = new LoweredPowers();
        refusedBeyond(0, 4, NONE, what -> x.plan(what, 0));
        due("nothing came", x.count(2), 0);
        for (int what = 0; what < 5; what++) {
            due("what " + what, x.plan(what, 0), what + 1);
        }
    }

    private void planBad() {
        says("26: BAD: v -99 .. 99");
        LoweredPowers x = new LoweredPowers();
        for (int what = 0; what < 5; what++) {
            int kind = what;
            refusedBeyond(-99, 99, BAD, v -> x.plan(kind, v));
        }
        due("nothing came", x.count(2), 0);
        due("least", x.plan(0, -99), 1);
        due("greatest", x.plan(0, 99), 2);
        dueText(x, "x^2");
        due("there and back", x.ahead(0), FAR);
    }

    private void planFull() {
        says("26: FULL: 8 at most");
        LoweredPowers x = new LoweredPowers();
        for (int n = 1; n <= 8; n++) {
            due("plan", x.plan(0, 1), n);
        }
        due("the ninth", x.plan(0, 1), FULL);
        due("how many", x.count(2), 8);
        due("by 8 alone", x.ahead(1), FAR + 16);
        x.unplan();
        due("room again", x.plan(0, 1), 1);
    }

    private void planFirstNamed() {
        says("26: of several the first: NONE, BAD, FULL");
        LoweredPowers x = new LoweredPowers();
        due("NONE ahead of BAD", x.plan(5, 100), NONE);
        due("NONE ahead of BAD", x.plan(-1, -100), NONE);
        for (int n = 0; n < 8; n++) {
            x.plan(1, 1);
        }
        due("NONE ahead of FULL", x.plan(5, 0), NONE);
        due("BAD ahead of FULL", x.plan(0, 100), BAD);
        due("FULL", x.plan(0, 99), FULL);
    }

    private void movedEdges() {
        says("PLAN: 0 MOVED by v (F of x and v)");
        LoweredPowers x = by("x^4");
        x.plan(0, 99);
        // 4 * 99, 6 * 99 * 99, 4 * 99 ^ 3 and 99 ^ 4, modulo 10007
        int[] moved = {96059601 % 10007, 3881196 % 10007, 58806 % 10007, 396, 1};
        for (int i = 0; i < 5; i++) {
            due("by 99", x.ahead(i), FAR + (moved[i] > 5003 ? moved[i] - 10007 : moved[i]));
        }
        x.unplan();
        x.plan(0, 0);
        due("by 0", x.ahead(4), FAR + 1);
        due("by 0", x.ahead(0), FAR);
        x.unplan();
        x.plan(0, -1);
        int[] back = {1, -4, 6, -4, 1};
        for (int i = 0; i < 5; i++) {
            due("by -1", x.ahead(i), FAR + back[i]);
        }
    }

    private void timesEdges() {
        says("PLAN: 1 times v");
        LoweredPowers x = by("x^4+1");
        x.plan(1, -99);
        due("run", x.run(), 4);
        dueF(x, -99, 0, 0, 0, -99);
        x.unplan();
        x.plan(1, 0);
        due("by 0", x.run(), -1);
        dueF(x);
    }

    private void turnedEdges() {
        says("PLAN: 2 turned about (number at x to the i-th goes to 4 less i)");
        LoweredPowers x = by("5x^4+4x^3+3x^2+2x+1");
        x.plan(2, 0);
        due("run", x.run(), 4);
        dueF(x, 5, 4, 3, 2, 1);
        tell(x, "7");
        due("run", x.run(), 4);
        dueF(x, 0, 0, 0, 0, 7);
        due("run", x.run(), 0);
        dueF(x, 7);
    }

    private void derivativeEdges() {
        says("PLAN: 3 derivative");
        LoweredPowers x = by("x^4+x^3+x^2+x+1");
        x.plan(3, 99);
        due("run", x.run(), 3);
        dueF(x, 1, 2, 3, 4);
        due("run", x.run(), 2);
        due("run", x.run(), 1);
        due("run", x.run(), 0);
        dueF(x, 24);
        due("of a number", x.run(), -1);
        due("of 0", x.run(), -1);
    }

    private void argumentEdges() {
        says("PLAN: 4 its argument times v (number at x to the i-th times v to the i-th)");
        LoweredPowers x = by("x^4+x^3+x^2+x+1");
        x.plan(4, -2);
        due("run", x.run(), 4);
        dueF(x, 1, -2, 4, -8, 16);
        x.unplan();
        x.plan(4, 0);
        due("0 to the 0 is 1", x.run(), 0);
        dueF(x, 1);
    }

    private void unplanEmpty() {
        says("27: how many there were: none");
        LoweredPowers x = new LoweredPowers();
        due("new", x.unplan(), 0);
        x.plan(1, 2);
        due("one", x.unplan(), 1);
        due("none then", x.unplan(), 0);
    }

    private void unplanFull() {
        says("27: The PLAN is empty: how many there were");
        LoweredPowers x = new LoweredPowers();
        for (int n = 0; n < 8; n++) {
            x.plan(1, 2);
        }
        due("unplan", x.unplan(), 8);
        due("count", x.count(2), 0);
        due("run changes nothing", x.run(), 2);
        dueF(x, 0, 0, 1);
    }

    private void runEmpty() {
        says("28: F is changed by the PLAN: an empty one");
        LoweredPowers x = by("x^3-1");
        due("run", x.run(), 3);
        dueF(x, -1, 0, 0, 1);
    }

    private void runFull() {
        says("28: F is changed by the PLAN: a full one, which stays");
        LoweredPowers x = by("x");
        for (int n = 0; n < 8; n++) {
            x.plan(1, 2);
        }
        due("run", x.run(), 1);
        dueF(x, 0, 256);
        due("the PLAN stays", x.count(2), 8);
        due("run", x.run(), 1);
        // 65536 is 7 times 10007 less 4513
        dueF(x, 0, -4513);
    }

    private void runOneBehindTheOther() {
        says("28: one CHANGE behind the other");
        LoweredPowers x = by("x^2");
        x.plan(0, 1);
        x.plan(3, 0);
        x.plan(2, 0);
        due("run", x.run(), 4);
        dueF(x, 0, 0, 0, 2, 2);
    }

    private void aheadNone() {
        says("29: NONE");
        LoweredPowers x = new LoweredPowers();
        refusedBeyond(0, 4, NONE, x::ahead);
        x.plan(0, 1);
        refusedBeyond(0, 4, NONE, x::ahead);
        due("first", x.ahead(0), FAR + 1);
        due("last", x.ahead(4), FAR);
    }

    private void aheadChangesNothing() {
        says("29: what F would be by the PLAN");
        LoweredPowers x = by("x^2+1");
        due("an empty PLAN", x.ahead(2), FAR + 1);
        x.plan(2, 0);
        for (int times = 0; times < 3; times++) {
            due("turned", x.ahead(4), FAR + 1);
            due("turned", x.ahead(0), FAR);
        }
        dueF(x, 1, 0, 1);
        due("the PLAN stays", x.count(2), 1);
    }

    private void rackNone() {
        says("30: NONE: rack, KIND");
        LoweredPowers x = new LoweredPowers();
        refusedBeyond(0, 2, NONE, rack -> x.rack(rack, 0, 1));
        refusedBeyond(0, 2, NONE, rack -> x.rack(rack, -1, 1));
        refusedBeyond(-1, 2, NONE, kind -> x.rack(0, kind, 1));
        due("nothing came", x.count(4), 0);
    }

    private void rackBad() {
        says("30: BAD: n above 10");
        LoweredPowers x = new LoweredPowers();
        for (int kind = 0; kind < 3; kind++) {
            due("11", x.rack(0, kind, 11), BAD);
            due("greatest", x.rack(0, kind, GREATEST), BAD);
        }
        due("nothing came", x.count(4), 0);
        due("10", x.rack(0, 0, 10), 1);
    }

    private void rackBelow() {
        says("30: BELOW");
        LoweredPowers x = new LoweredPowers();
        for (int kind = 0; kind < 3; kind++) {
            due("-1", x.rack(0, kind, -1), BELOW);
            due("least", x.rack(0, kind, LEAST), BELOW);
        }
        due("nothing came", x.count(4), 0);
        due("0", x.rack(0, 0, 0), 1);
    }

    private void rackNothing() {
        says("30: or nothing (KIND -1; n does not matter): 1");
        LoweredPowers x = new LoweredPowers();
        for (int n : new int[] {LEAST, -1, 0, 10, 11, GREATEST}) {
            due("make", x.rack(1, 1, 2), 1);
            due("store", x.store(1, 0, 1, 5), 1);
            due("nothing", x.rack(1, -1, n), 1);
            due("nothing, again", x.rack(1, -1, n), 1);
            due("count", x.count(4), 0);
            due("thing", x.thing(1, 0), VOID);
        }
    }

    private void rackFirstNamed() {
        says("30: of several the first: NONE, BAD, BELOW");
        LoweredPowers x = new LoweredPowers();
        due("rack and n", x.rack(3, 0, 11), NONE);
        due("rack and n", x.rack(-1, 0, -1), NONE);
        due("KIND and n", x.rack(0, 3, 11), NONE);
        due("KIND and n", x.rack(0, -2, -1), NONE);
    }

    private void rackLeastAndMost() {
        says("RACKS: a row of 0 .. 10 places of a KIND, all empty");
        LoweredPowers x = new LoweredPowers();
        for (int rack = 0; rack < 3; rack++) {
            due("0 places", x.rack(rack, rack, 0), 1);
            due("holds something", x.count(4), 1);
            due("no place", x.store(rack, 0, rack, 1), PLACE);
            due("10 places", x.rack(rack, rack, 10), 1);
            for (int i = 0; i < 10; i++) {
                due("empty", x.thing(rack, i), VOID);
                due("store", x.store(rack, i, rack, i), 1);
            }
            due("no place", x.store(rack, 10, rack, 1), PLACE);
            for (int i = 0; i < 10; i++) {
                due("thing", x.thing(rack, i), i);
            }
            x.rack(rack, -1, 0);
        }
    }

    private void rackAnew() {
        says("30: A RACK holds a row of n places: a new one, all empty");
        LoweredPowers x = new LoweredPowers();
        x.rack(0, 0, 10);
        x.store(0, 9, 0, 7);
        x.store(0, 0, 0, 7);
        x.rack(0, 0, 1);
        due("empty", x.thing(0, 0), VOID);
        due("no place", x.thing(0, 9), VOID);
        x.rack(0, 2, 10);
        due("empty", x.thing(0, 9), VOID);
        due("another KIND", x.store(0, 0, 0, 1), CAST);
        due("its KIND", x.store(0, 0, 2, 1), 1);
        due("refused", x.rack(0, 0, 11), BAD);
        due("refused", x.rack(0, 0, -1), BELOW);
        due("the row stays", x.thing(0, 0), 1);
    }

    private void storeNone() {
        says("31: NONE: rack, KIND");
        LoweredPowers x = new LoweredPowers();
        x.rack(0, 0, 1);
        refusedBeyond(0, 2, NONE, rack -> x.store(rack, 0, 0, 1));
        refusedBeyond(0, 2, NONE, kind -> x.store(0, 0, kind, 1));
        due("nothing came", x.thing(0, 0), VOID);
    }

    private void storeMissing() {
        says("31: MISSING");
        LoweredPowers x = new LoweredPowers();
        allAnswer(0, 2, MISSING, rack -> x.store(rack, 0, 0, 1));
        x.rack(1, 0, 1);
        due("there", x.store(1, 0, 0, 1), 1);
        x.rack(1, -1, 0);
        due("gone", x.store(1, 0, 0, 1), MISSING);
    }

    private void storePlace() {
        says("31: PLACE");
        LoweredPowers x = new LoweredPowers();
        x.rack(0, 1, 3);
        refusedBeyond(0, 2, PLACE, i -> x.store(0, i, 1, 1));
        x.rack(1, 1, 0);
        refusedBeyond(0, 0, PLACE, i -> x.store(1, i, 1, 1));
        due("no place at all", x.store(1, 0, 1, 1), PLACE);
        x.rack(2, 2, 10);
        refusedBeyond(0, 9, PLACE, i -> x.store(2, i, 2, 1));
        due("last", x.store(2, 9, 2, 1), 1);
    }

    private void storeCast() {
        says("CAST: the row is of another KIND");
        LoweredPowers x = new LoweredPowers();
        for (int row = 0; row < 3; row++) {
            x.rack(row, row, 1);
            for (int kind = 0; kind < 3; kind++) {
                due("a " + kind + " to a " + row, x.store(row, 0, kind, kind + 1), row == kind ? 1 : CAST);
            }
            due("the thing of its KIND", x.thing(row, 0), row + 1);
        }
    }

    private void storeFirstNamed() {
        says("31: of several the first: NONE, MISSING, PLACE, CAST");
        LoweredPowers x = new LoweredPowers();
        due("rack, KIND and place", x.store(3, -1, 3, 0), NONE);
        due("KIND ahead of MISSING", x.store(0, 0, 3, 0), NONE);
        due("KIND -1 ahead of MISSING", x.store(0, 0, -1, 0), NONE);
        due("MISSING ahead of PLACE", x.store(0, -1, 0, 0), MISSING);
        x.rack(0, 0, 1);
        due("KIND ahead of PLACE", x.store(0, 1, -1, 0), NONE);
        due("PLACE ahead of CAST", x.store(0, 1, 1, 0), PLACE);
        due("PLACE ahead of CAST", x.store(0, -1, 2, 0), PLACE);
        due("CAST", x.store(0, 0, 1, 0), CAST);
    }

    private void thingVoid() {
        says("32: VOID: no such RACK, nothing, no such place, empty");
        LoweredPowers x = new LoweredPowers();
        for (int rack : new int[] {-1, 3, LEAST, GREATEST}) {
            due("no such RACK", x.thing(rack, 0), VOID);
        }
        for (int rack = 0; rack < 3; rack++) {
            due("nothing", x.thing(rack, 0), VOID);
            x.rack(rack, rack, 2);
            int of = rack;
            refusedBeyond(0, 1, VOID, i -> x.thing(of, i));
            due("empty", x.thing(rack, 0), VOID);
            x.store(rack, 0, rack, 0);
            due("0 is not empty", x.thing(rack, 0), 0);
            due("still empty", x.thing(rack, 1), VOID);
        }
    }

    private void thingBesideAnotherRack() {
        says("32: VOID: no such place, whatever another RACK holds");
        LoweredPowers x = new LoweredPowers();
        for (int rack = 0; rack < 3; rack++) {
            x.rack(rack, 0, 10);
            for (int i = 0; i < 10; i++) {
                x.store(rack, i, 0, 10 * rack + i);
            }
        }
        for (int rack = 0; rack < 3; rack++) {
            due("below", x.thing(rack, -1), VOID);
            due("above", x.thing(rack, 10), VOID);
            due("first", x.thing(rack, 0), 10 * rack);
            due("last", x.thing(rack, 9), 10 * rack + 9);
        }
    }

    private void thingEdges() {
        says("32: The number of the thing at place i (of a String, too)");
        LoweredPowers x = new LoweredPowers();
        for (int kind = 0; kind < 3; kind++) {
            x.rack(kind, kind, 1);
            for (int v : new int[] {LEAST, -1, 0, 1, GREATEST}) {
                due("store", x.store(kind, 0, kind, v), 1);
                due("thing", x.thing(kind, 0), v);
            }
        }
    }

    private void copiedNone() {
        says("33: NONE");
        LoweredPowers x = new LoweredPowers();
        x.rack(0, 0, 1);
        refusedBeyond(0, 2, NONE, rack -> x.copied(rack, 0));
        refusedBeyond(0, 2, NONE, other -> x.copied(0, other));
        due("nothing came", x.count(4), 1);
    }

    private void copiedMissing() {
        says("33: MISSING");
        LoweredPowers x = new LoweredPowers();
        x.rack(1, 1, 2);
        x.store(1, 0, 1, 5);
        due("missing", x.copied(0, 1), MISSING);
        due("the other stays", x.thing(1, 0), 5);
        due("missing to itself", x.copied(0, 0), MISSING);
    }

    private void copiedFirstNamed() {
        says("33: of several the first: NONE, MISSING");
        LoweredPowers x = new LoweredPowers();
        refusedBeyond(0, 2, NONE, other -> x.copied(0, other));
    }

    private void copiedOfItsOwn() {
        says("33: which does not become otherwise with it");
        LoweredPowers x = new LoweredPowers();
        x.rack(0, 1, 3);
        x.store(0, 0, 1, 5);
        due("places", x.copied(0, 2), 3);
        x.store(0, 0, 1, 6);
        x.store(2, 1, 1, 7);
        due("its own", x.thing(0, 0), 6);
        due("its own", x.thing(2, 0), 5);
        due("its own", x.thing(0, 1), VOID);
        due("its own", x.thing(2, 1), 7);
        x.rack(0, -1, 0);
        due("stays", x.thing(2, 0), 5);
    }

    private void copiedEdges() {
        says("33: RACK other holds a row like that (the things, too): places");
        LoweredPowers x = new LoweredPowers();
        x.rack(0, 2, 10);
        x.store(0, 0, 2, LEAST);
        x.store(0, 9, 2, GREATEST);
        x.rack(1, 0, 4);
        x.store(1, 1, 0, 8);
        due("10 places", x.copied(0, 1), 10);
        due("first", x.thing(1, 0), LEAST);
        due("what was is gone", x.thing(1, 1), VOID);
        due("last", x.thing(1, 9), GREATEST);
        due("its KIND", x.store(1, 1, 0, 1), CAST);
        due("its KIND", x.store(1, 1, 2, 1), 1);
        due("to itself", x.copied(0, 0), 10);
        due("to itself", x.thing(0, 9), GREATEST);
        x.rack(2, 1, 0);
        due("no places", x.copied(2, 0), 0);
        due("no places", x.store(0, 0, 1, 1), PLACE);
        due("holds something", x.count(4), 3);
    }
}
