/** The boundary cases of promises 34 to 44, a method for each sentence. */
public final class EdgesOfTextsAndListsTest extends Edges {
    private EdgesOfTextsAndListsTest() {
        super("EdgesOfTextsAndListsTest");
    }

    public static void main(String[] args) {
        new EdgesOfTextsAndListsTest().all();
    }

    private void all() {
        feedBad();
        feedFull();
        feedFirstNamed();
        wipeEdges();
        readEmptiesTheTape();
        readDegree();
        readAFullTape();
        readFaultChangesNothing();
        faultByEachByte();
        faultAtTheEnd();
        faultOfFigures();
        faultOfPowers();
        faultIsTheFirst();
        termsEdges();
        likePowers();
        writtenNone();
        writtenOfNought();
        writtenSigns();
        writtenOnes();
        writtenPowers();
        writtenLongest();
        listNone();
        listBad();
        listBelow();
        listFirstNamed();
        listAnew();
        layNone();
        layMissing();
        layPlace();
        layFirstNamed();
        lookVoid();
        lookEdges();
        judgeNone();
        judgeMissing();
        judgeState();
        judgeFirstNamed();
        judgeFirstPlaceOtherwise();
        judgeAboveB();
        judgeShorter();
        judgeAllAlike();
        judgeByNumbersAsTold();
        imageDegree();
        imageOfItsOwn();
        undoState();
        undoAll();
        undoLeavesTheOthers();
        undoToNothingFound();
        undoAgain();
        countNone();
        countLeast();
        countMost();
        countEmptyRows();
        checks.end();
    }

    private void feedBad() {
        says("34: BAD: A byte (32 .. 126)");
        LoweredPowers x = new LoweredPowers();
        refusedBeyond(32, 126, BAD, x::feed);
        due("nothing came", x.count(3), 0);
        due("least", x.feed(32), 1);
        due("greatest", x.feed(126), 2);
        due("a byte alone", x.feed('x' + 256), BAD);
    }

    private void feedFull() {
        says("34: FULL: THE TAPE holds 0 .. 60 bytes");
        LoweredPowers x = new LoweredPowers();
        for (int n = 1; n <= 60; n++) {
            due("feed", x.feed(n % 2 == 1 ? 'x' : '+'), n);
        }
        due("the 61st", x.feed('x'), FULL);
        due("it did not come", x.count(3), 60);
        due("it did not come", x.read(), -160);
        due("room again", x.feed('x'), 1);
    }

    private void feedFirstNamed() {
        says("34: of several the first: BAD, FULL");
        LoweredPowers x = new LoweredPowers();
        for (int n = 0; n < 60; n++) {
            x.feed('1');
        }
        refusedBeyond(32, 126, BAD, x::feed);
        due("FULL", x.feed(32), FULL);
    }

    private void wipeEdges() {
        says("35: THE TAPE is empty: how many it had");
        LoweredPowers x = new LoweredPowers();
        due("none", x.wipe(), 0);
        x.feed('7');
        due("one", x.wipe(), 1);
        due("none then", x.wipe(), 0);
        for (int n = 0; n < 60; n++) {
            x.feed('1');
        }
        due("all", x.wipe(), 60);
        due("empty", x.read(), -100);
        dueF(x, 0, 0, 1);
    }

    private void readEmptiesTheTape() {
        says("THE TAPE is empty behind each read()");
        LoweredPowers x = new LoweredPowers();
        due("fine", tell(x, "5x"), 11);
        due("empty", x.count(3), 0);
        due("a fault", tell(x, "5y"), -101);
        due("empty", x.count(3), 0);
        due("too early", tell(x, "5x+"), -103);
        due("empty", x.count(3), 0);
        due("nothing is left of it", tell(x, "3"), 10);
        dueF(x, 3);
    }

    private void readDegree() {
        says("36: DEGREE, and 10");
        LoweredPowers x = new LoweredPowers();
        due("-1", tell(x, "0"), 9);
        due("0", tell(x, "1"), 10);
        due("1", tell(x, "x"), 11);
        due("2", tell(x, "x^2"), 12);
        due("3", tell(x, "x^3"), 13);
        due("4", tell(x, "x^4"), 14);
        due("the highest has number 0", tell(x, "0x^4+x"), 11);
    }

    private void readAFullTape() {
        says("36: what THE TAPE's TEXT tells: one of 60 bytes");
        LoweredPowers x = new LoweredPowers();
        feedAll(x, "10");
        for (int n = 0; n < 29; n++) {
            feedAll(x, n % 2 == 0 ? "+x" : "-1");
        }
        due("full", x.count(3), 60);
        due("read", x.read(), 11);
        dueF(x, -4, 15);
    }

    private void readFaultChangesNothing() {
        says("36: -100 less the FAULT: F stays");
        LoweredPowers x = by("3x^4-2");
        for (String text : new String[] {"", "-", "7x^3+", "7x^3+5y", "1234", "x^5"}) {
            due(text, tell(x, text) <= -100 ? 1 : 0, 1);
            dueF(x, -2, 0, 0, 0, 3);
        }
    }

    /** Each byte behind each kind of beginning: those that go on, and all others, which are the fault. */
    private void faultByEachByte() {
        says("FAULT: the place of the first byte with which no TEXT goes on");
        String figures = "0123456789";
        String[] beginnings = {"", "-", "x+", "x-", "7", "77", "777", "x", "7x", "x^", "x^4", "7x^0", "x+7", "-x"};
        String[] goOn = {figures + "x-", figures + "x", figures + "x", figures + "x", figures + "x+-", figures + "x+-", "x+-", "^+-", "^+-",
            "01234", "+-", "+-", figures + "x+-", "^+-"};
        for (int n = 0; n < beginnings.length; n++) {
            int fault = -100 - beginnings[n].length();
            for (char letter = 32; letter <= 126; letter++) {
                boolean refused = tell(new LoweredPowers(), beginnings[n] + letter) == fault;
                checks.holds("36 FAULT: " + beginnings[n] + letter, refused == (goOn[n].indexOf(letter) < 0));
            }
        }
    }

    private void faultAtTheEnd() {
        says("FAULT: the length, if it ends too early");
        LoweredPowers x = new LoweredPowers();
        due("empty", x.read(), -100);
        due("-", tell(x, "-"), -101);
        due("x+", tell(x, "x+"), -102);
        due("x^", tell(x, "x^"), -102);
        due("-12x^", tell(x, "-12x^"), -105);
        due("12x^3-", tell(x, "12x^3-"), -106);
    }

    private void faultOfFigures() {
        says("a TERM: a number of 1 to 3 figures");
        LoweredPowers x = new LoweredPowers();
        due("1", tell(x, "9"), 10);
        dueF(x, 9);
        due("2", tell(x, "99"), 10);
        dueF(x, 99);
        due("3", tell(x, "999"), 10);
        dueF(x, 999);
        due("4", tell(x, "1000"), -103);
        due("4, the first 0", tell(x, "0001"), -103);
        due("4 of the second TERM", tell(x, "1+1000"), -105);
        due("3 of the second TERM", tell(x, "999+999"), 10);
        dueF(x, 1998);
    }

    private void faultOfPowers() {
        says("perhaps (behind x) ^ and a figure 0 .. 4");
        LoweredPowers x = new LoweredPowers();
        for (int power = 0; power <= 9; power++) {
            due("x^" + power, tell(x, "x^" + power), power <= 4 ? 10 + power : -102);
            due("2x^" + power, tell(x, "2x^" + power), power <= 4 ? 10 + power : -103);
        }
        due("two figures", tell(x, "x^10"), -103);
        due("^ behind a number", tell(x, "2^1"), -101);
        due("^ behind a power", tell(x, "x^1^1"), -103);
        due("^ ahead of all", tell(x, "^1"), -100);
        due("a sign of the power", tell(x, "x^-1"), -102);
    }

    private void faultIsTheFirst() {
        says("FAULT: the first byte");
        LoweredPowers x = new LoweredPowers();
        due("two faults", tell(x, "x y z"), -101);
        due("a fault ahead of an early end", tell(x, "xx+"), -101);
        StringBuilder most = new StringBuilder("10");
        for (int n = 0; n < 28; n++) {
            most.append("+x");
        }
        due("the last byte of a full TAPE", tell(x, most + "+~"), -159);
        due("the last but one", tell(x, most + "~+"), -158);
    }

    private void termsEdges() {
        says("perhaps - ahead, a TERM, then any number of times + or - and a TERM");
        LoweredPowers x = new LoweredPowers();
        due("- ahead", tell(x, "-3"), 10);
        dueF(x, -3);
        due("+ ahead", tell(x, "+3"), -100);
        due("- twice", tell(x, "--3"), -101);
        due("-0", tell(x, "-0"), 9);
        dueF(x);
        due("first figure 0", tell(x, "007x^4"), 14);
        dueF(x, 0, 0, 0, 0, 7);
        due("x alone: number 1", tell(x, "-x^2+x"), 12);
        dueF(x, 0, 1, -1);
        due("0x", tell(x, "0x+2"), 10);
        dueF(x, 2);
        due("the numbers of before are gone", tell(x, "x^3"), 13);
        dueF(x, 0, 0, 0, 1);
    }

    private void likePowers() {
        says("Numbers at like powers are added");
        LoweredPowers x = by("x^0+1+2x^0");
        dueF(x, 4);
        due("x and x^1", tell(x, "x+x^1-5x"), 11);
        dueF(x, 0, -3);
        due("to 0", tell(x, "x^4-x^4"), 9);
        dueF(x);
    }

    private void writtenNone() {
        says("37: NONE");
        LoweredPowers x = new LoweredPowers();
        refusedBeyond(-1, 2, NONE, x::written);
        due("i -1: how many", x.written(-1), 3);
        due("first", x.written(0), 'x');
        due("last", x.written(2), '2');
    }

    private void writtenOfNought() {
        says("WRITTEN: 0 alone, if all are 0");
        LoweredPowers x = by("0");
        dueText(x, "0");
        due("how many", x.written(-1), 1);
    }

    private void writtenSigns() {
        says("WRITTEN: - ahead of one below 0, + ahead of the others but the first one");
        LoweredPowers x = new LoweredPowers();
        for (String text : new String[] {"-2", "2", "-2x+3", "2x-3", "2x^4+3x^3+4x^2+5x+6", "-2x^4-3x^3-4x^2-5x-6", "7x^2+8"}) {
            tell(x, text);
            dueText(x, text);
        }
    }

    private void writtenOnes() {
        says("WRITTEN: the number without its sign (1 is left out ahead of x)");
        LoweredPowers x = new LoweredPowers();
        for (String text : new String[] {"1", "-1", "x", "-x", "x+1", "-x-1", "x^4-x^3+x^2-x+1", "11x-11", "10x^2+101"}) {
            tell(x, text);
            dueText(x, text);
        }
    }

    private void writtenPowers() {
        says("WRITTEN: x (but at 0), ^ and the power, if that is above 1");
        LoweredPowers x = by("5x^0");
        dueText(x, "5");
        tell(x, "5x^1");
        dueText(x, "5x");
        for (int power = 2; power <= 4; power++) {
            tell(x, "5x^" + power);
            dueText(x, "5x^" + power);
        }
        tell(x, "1+2x+3x^2");
        dueText(x, "3x^2+2x+1");
    }

    private void writtenLongest() {
        says("WRITTEN: the longest one");
        LoweredPowers x = new LoweredPowers();
        for (int i = 0; i < 5; i++) {
            x.set(i, -5003);
        }
        due("how many", x.written(-1), 35);
        dueText(x, "-5003x^4-5003x^3-5003x^2-5003x-5003");
        x.set(4, 5003);
        dueText(x, "5003x^4-5003x^3-5003x^2-5003x-5003");
        x.set(3, 1000);
        x.set(2, 100);
        x.set(1, 10);
        x.set(0, 4090);
        dueText(x, "5003x^4+1000x^3+100x^2+10x+4090");
    }

    private void listNone() {
        says("38: NONE: list");
        LoweredPowers x = new LoweredPowers();
        refusedBeyond(0, 2, NONE, list -> x.list(list, 1));
        refusedBeyond(0, 2, NONE, list -> x.list(list, -1));
        due("nothing came", x.count(5), 0);
    }

    private void listBad() {
        says("38: BAD: n above 12");
        LoweredPowers x = new LoweredPowers();
        due("13", x.list(0, 13), BAD);
        due("greatest", x.list(0, GREATEST), BAD);
        due("nothing came", x.count(5), 0);
        due("12", x.list(0, 12), 1);
    }

    private void listBelow() {
        says("38: BELOW: n below -1");
        LoweredPowers x = new LoweredPowers();
        x.list(0, 1);
        due("-2", x.list(0, -2), BELOW);
        due("least", x.list(0, LEAST), BELOW);
        due("it stays", x.count(5), 1);
        due("-1: missing", x.list(0, -1), 1);
        due("missing", x.count(5), 0);
        due("missing again", x.list(0, -1), 1);
        due("0", x.list(0, 0), 1);
        due("there", x.count(5), 1);
    }

    private void listFirstNamed() {
        says("38: of several the first: NONE, BAD, BELOW");
        LoweredPowers x = new LoweredPowers();
        due("list and n", x.list(3, 13), NONE);
        due("list and n", x.list(-1, -2), NONE);
    }

    private void listAnew() {
        says("38: holds n longs (0 .. 12), all 0");
        LoweredPowers x = new LoweredPowers();
        for (int n = 0; n <= 12; n++) {
            due("list", x.list(1, n), 1);
            for (int i = 0; i < n; i++) {
                due("0", x.look(1, i), 0);
                x.lay(1, i, i + 1);
            }
            due("no more", x.look(1, n), VOID);
        }
        x.list(1, -1);
        x.list(1, 12);
        due("0 again", x.look(1, 11), 0);
    }

    private void layNone() {
        says("39: NONE");
        LoweredPowers x = new LoweredPowers();
        x.list(0, 1);
        refusedBeyond(0, 2, NONE, list -> x.lay(list, 0, 5));
        due("nothing came", x.look(0, 0), 0);
    }

    private void layMissing() {
        says("39: MISSING");
        LoweredPowers x = new LoweredPowers();
        allAnswer(0, 2, MISSING, list -> x.lay(list, 0, 5));
        x.list(2, 1);
        due("there", x.lay(2, 0, 5), 1);
        x.list(2, -1);
        due("missing", x.lay(2, 0, 5), MISSING);
    }

    private void layPlace() {
        says("39: PLACE");
        LoweredPowers x = new LoweredPowers();
        x.list(0, 12);
        refusedBeyond(0, 11, PLACE, i -> x.lay(0, i, 5));
        x.list(1, 3);
        refusedBeyond(0, 2, PLACE, i -> x.lay(1, i, 5));
        x.list(2, 0);
        due("no place at all", x.lay(2, 0, 5), PLACE);
        due("nothing came", x.look(1, 0), 0);
        due("last", x.lay(0, 11, 5), 1);
    }

    private void layFirstNamed() {
        says("39: of several the first: NONE, MISSING, PLACE");
        LoweredPowers x = new LoweredPowers();
        due("NONE ahead of PLACE", x.lay(3, -1, 5), NONE);
        due("MISSING ahead of PLACE", x.lay(0, -1, 5), MISSING);
        due("MISSING ahead of PLACE", x.lay(0, 12, 5), MISSING);
    }

    private void lookVoid() {
        says("40: VOID: no such LIST, missing, no such place");
        LoweredPowers x = new LoweredPowers();
        refusedBeyond(0, 2, VOID, list -> x.look(list, 0));
        allAnswer(0, 2, VOID, list -> x.look(list, 0));
        x.list(0, 12);
        refusedBeyond(0, 11, VOID, i -> x.look(0, i));
        x.list(1, 0);
        due("no place at all", x.look(1, 0), VOID);
        x.list(0, -1);
        due("missing", x.look(0, 0), VOID);
    }

    private void lookEdges() {
        says("40: Place i of a LIST: any long");
        LoweredPowers x = new LoweredPowers();
        x.list(0, 12);
        long[] all = {Long.MAX_VALUE, Long.MIN_VALUE + 1, 10007, -10007, 5004, -5004, 1L << 32, -1};
        for (int i = 0; i < all.length; i++) {
            due("lay", x.lay(0, i, all[i]), 1);
        }
        for (int i = 0; i < all.length; i++) {
            due("look", x.look(0, i), all[i]);
        }
        due("lay the least", x.lay(0, 11, Long.MIN_VALUE), 1);
        due("look", x.look(0, 11), VOID);
        x.list(1, 12);
        x.list(2, 12);
        due("its own", x.look(1, 0), 0);
        x.lay(1, 11, 3);
        due("its own", x.look(2, 0), 0);
        due("its own", x.look(0, 0), Long.MAX_VALUE);
    }

    private static LoweredPowers found() {
        LoweredPowers x = new LoweredPowers();
        x.search(2, 0, 0);
        return x;
    }

    private static void layAll(LoweredPowers x, int list, long... numbers) {
        x.list(list, numbers.length);
        for (int i = 0; i < numbers.length; i++) {
            x.lay(list, i, numbers[i]);
        }
    }

    private void judgeNone() {
        says("41: NONE");
        refusedBeyond(0, 2, NONE, found()::judge);
    }

    private void judgeMissing() {
        says("41: MISSING");
        LoweredPowers x = found();
        allAnswer(0, 2, MISSING, x::judge);
        x.list(1, 0);
        due("there", x.judge(1), 100);
        x.list(1, -1);
        due("missing", x.judge(1), MISSING);
    }

    private void judgeState() {
        says("41: STATE: nothing is FOUND");
        LoweredPowers x = new LoweredPowers();
        x.list(0, 0);
        x.list(1, 12);
        due("no longs", x.judge(0), STATE);
        due("longs", x.judge(1), STATE);
        x.search(2, 0, 0);
        due("found", x.judge(1), 0);
        x.search(1, 0, 0);
        due("none any more", x.judge(1), STATE);
    }

    private void judgeFirstNamed() {
        says("41: of several the first: NONE, MISSING, STATE");
        LoweredPowers x = new LoweredPowers();
        refusedBeyond(0, 2, NONE, x::judge);
        due("MISSING ahead of STATE", x.judge(0), MISSING);
    }

    private void judgeFirstPlaceOtherwise() {
        says("JUDGED: the first place that is otherwise");
        LoweredPowers x = found();
        layAll(x, 0, 1, -5002, 1);
        due("0", x.judge(0), 0);
        layAll(x, 0, -5003, 1, 1);
        due("1", x.judge(0), 1);
        layAll(x, 0, -5003, -5002, 0);
        due("B", x.judge(0), 2);
        layAll(x, 0, 7, 7, 7);
        due("of several the first", x.judge(0), 0);
        layAll(x, 0, -5003, 7);
        due("otherwise, though shorter", x.judge(0), 1);
        layAll(x, 0, -5003, 7, 1, 0);
        due("otherwise, though longer", x.judge(0), 1);
    }

    private void judgeAboveB() {
        says("JUDGED: (that is above B, too)");
        LoweredPowers x = found();
        layAll(x, 2, -5003, -5002, 1, 0);
        due("0 above B", x.judge(2), 3);
        layAll(x, 2, -5003, -5002, 1, 5);
        due("5 above B", x.judge(2), 3);
        layAll(x, 2, -5003, -5002, 1, 0, 0, 0, 0, 0, 0, 0, 0, 0);
        due("12 longs", x.judge(2), 3);
    }

    private void judgeShorter() {
        says("JUDGED: 100 and its size, if all are so, but it is shorter");
        LoweredPowers x = found();
        layAll(x, 0);
        due("no longs", x.judge(0), 100);
        layAll(x, 0, -5003);
        due("one", x.judge(0), 101);
        layAll(x, 0, -5003, -5002);
        due("one too few", x.judge(0), 102);
    }

    private void judgeAllAlike() {
        says("JUDGED: NOT: none");
        LoweredPowers x = found();
        layAll(x, 0, -5003, -5002, 1);
        due("alike", x.judge(0), NOT);
        tell(x, "x^4");
        x.search(4, 0, 0);
        due("another b", x.judge(0), 0);
        layAll(x, 0, 3440, -4690, -3125, -5001, 1);
        due("alike", x.judge(0), NOT);
    }

    private void judgeByNumbersAsTold() {
        says("JUDGED: longs, by numbers told as -5003 .. 5003");
        LoweredPowers x = found();
        layAll(x, 0, 5004, -5002, 1);
        due("5004 is not -5003", x.judge(0), 0);
        layAll(x, 0, -5003 + (1L << 32), -5002, 1);
        due("all bits of a long", x.judge(0), 0);
        layAll(x, 0, -5003, -5002, 10008);
        due("10008 is not 1", x.judge(0), 2);
    }

    private void imageDegree() {
        says("42: THE IMAGE is taken: DEGREE");
        LoweredPowers x = new LoweredPowers();
        due("2", x.image(), 2);
        tell(x, "0");
        due("-1", x.image(), -1);
        due("the later one", x.undo(), -1);
        tell(x, "x^4");
        due("4", x.image(), 4);
    }

    private void imageOfItsOwn() {
        says("42: THE IMAGE does not become otherwise with F, THE OPERATOR, FOUND, the PLAN");
        LoweredPowers x = found();
        x.put(0, 0, 0, 5);
        x.plan(1, 2);
        x.image();
        x.set(2, 7);
        x.put(0, 0, 0, 6);
        x.put(4, 4, 2, 6);
        x.unplan();
        x.plan(3, 3);
        x.plan(0, 3);
        x.search(1, 0, 0);
        x.undo();
        dueF(x, 0, 0, 1);
        due("get", x.get(0, 0, 0), FAR + 5);
        due("order", x.order(), 0);
        due("PLAN", x.count(2), 1);
        due("PLAN", x.ahead(2), FAR + 2);
        dueB(x, -5003, -5002, 1);
    }

    private void undoState() {
        says("43: STATE: there is none");
        LoweredPowers x = new LoweredPowers();
        x.set(0, 5);
        due("undo", x.undo(), STATE);
        dueF(x, 5, 0, 1);
        x.image();
        due("there is one", x.undo(), 2);
    }

    private void undoAll() {
        says("43: All is as THE IMAGE: DEGREE");
        LoweredPowers x = new LoweredPowers();
        x.image();
        tell(x, "x^4");
        x.search(4, 4, 2);
        x.take();
        for (int n = 0; n < 8; n++) {
            x.plan(3, 0);
        }
        due("undo", x.undo(), 2);
        dueF(x, 0, 0, 1);
        due("THE OPERATOR", x.count(1), 0);
        due("the PLAN", x.count(2), 0);
        due("FOUND", x.count(6), 0);
        due("FOUND", x.found(-1), STATE);
        due("room again", x.plan(3, 0), 1);
    }

    private void undoLeavesTheOthers() {
        says("THE IMAGE: not RACKS, LISTS, THE TAPE");
        LoweredPowers x = new LoweredPowers();
        x.rack(0, 0, 1);
        x.list(0, 1);
        x.feed('7');
        x.image();
        x.store(0, 0, 0, 5);
        x.rack(1, 1, 1);
        x.lay(0, 0, 6);
        x.list(1, 1);
        x.feed('x');
        due("undo", x.undo(), 2);
        due("RACKS", x.thing(0, 0), 5);
        due("RACKS", x.count(4), 2);
        due("LISTS", x.look(0, 0), 6);
        due("LISTS", x.count(5), 2);
        due("THE TAPE", x.count(3), 2);
        due("THE TAPE", x.read(), 11);
        dueF(x, 0, 7);
    }

    private void undoToNothingFound() {
        says("THE IMAGE: FOUND, if there was none, too");
        LoweredPowers x = found();
        x.image();
        x.search(1, 0, 0);
        due("none", x.count(6), 0);
        x.undo();
        dueB(x, -5003, -5002, 1);
        due("numbers", x.foundOf(2, 0, 0), FAR + 2502);
        due("roots", x.roots(), 2);
        x.search(1, 0, 0);
        x.image();
        x.search(2, 0, 0);
        x.undo();
        due("none", x.count(6), 0);
    }

    private void undoAgain() {
        says("43: THE IMAGE is still there behind undo()");
        LoweredPowers x = new LoweredPowers();
        x.image();
        for (int times = 0; times < 3; times++) {
            x.set(4, times + 1);
            due("undo", x.undo(), 2);
            dueF(x, 0, 0, 1);
        }
    }

    private void countNone() {
        says("44: NONE");
        refusedBeyond(0, 6, NONE, new LoweredPowers()::count);
    }

    private void countLeast() {
        says("44: the least of each");
        LoweredPowers x = by("0");
        allAnswer(0, 6, 0, x::count);
    }

    private void countMost() {
        says("44: the most of each");
        LoweredPowers x = by("x");
        x.search(1, 0, 0);
        for (int i = 0; i < 5; i++) {
            x.set(i, -5003);
        }
        for (int n = 0; n < 75; n++) {
            x.put(n / 15, n / 3 % 5, n % 3, -5003);
        }
        for (int n = 0; n < 9; n++) {
            x.plan(2, 0);
        }
        for (int n = 0; n < 61; n++) {
            x.feed(' ');
        }
        for (int n = 0; n < 3; n++) {
            x.rack(n, n, 10);
            x.list(n, 12);
        }
        int[] most = {5, 75, 8, 60, 3, 3, 1};
        for (int what = 0; what < 7; what++) {
            due("count " + what, x.count(what), most[what]);
        }
    }

    private void countEmptyRows() {
        says("44: RACKS that hold something, LISTS that are there: rows without a place, too");
        LoweredPowers x = new LoweredPowers();
        for (int n = 0; n < 3; n++) {
            x.rack(n, n, 0);
            x.list(n, 0);
            due("RACKS", x.count(4), n + 1);
            due("LISTS", x.count(5), n + 1);
        }
        for (int n = 0; n < 3; n++) {
            x.rack(n, -1, 0);
            x.list(n, -1);
            due("RACKS", x.count(4), 2 - n);
            due("LISTS", x.count(5), 2 - n);
        }
    }
}
