import java.util.Arrays;

/** Powers of a polynomial lowered by operators; README.md tells how to use it. */
public final class LoweredPowers {
    public static final int NONE = -1, BAD = -2, STATE = -3, FULL = -4, NOT = -5, MISSING = -11, CAST = -12, PLACE = -13, BELOW = -14, FAR = 100000;
    public static final long VOID = Long.MIN_VALUE;

    private static final int PRIME = 10007;
    private static final int MOST = 5003;
    /** The highest power of x in F. */
    private static final int TOP = 4;
    /** The highest power of x in what an operator makes of a whole power of F. */
    private static final int LONGEST = 20;
    /** Powers of x and of s that a GRID (a polynomial of x and s, in a row) has room for. */
    private static final int WIDE = 25;
    private static final int DEEP = 9;

    private final State now;
    private final State kept;
    private boolean imaged;
    private final Lowering lowering;
    private final Search searching;
    private final Reals floats;
    private final Reals doubles;
    private final Racks racks;
    private final Texts texts;
    private final Lists lists;
    /** What F would be by the PLAN. */
    private final int[] changed;
    private final int[] product;

    public LoweredPowers() {
        now = new State();
        kept = new State();
        imaged = false;
        lowering = new Lowering();
        searching = new Search();
        floats = new Reals(23, 8);
        doubles = new Reals(52, 11);
        racks = new Racks();
        texts = new Texts();
        lists = new Lists();
        changed = new int[TOP + 1];
        product = new int[TOP + 1];
    }

    // ---- the polynomial, the operator

    public int set(int i, int v) {
        if (!within(i, 0, TOP)) {
            return NONE;
        }
        if (!within(v, -MOST, MOST)) {
            return BAD;
        }
        int before = now.f[i];
        now.f[i] = v;
        return FAR + before;
    }

    public int of(int i) {
        return within(i, 0, TOP) ? FAR + now.f[i] : NONE;
    }

    public int degree() {
        return Numbers.highest(now.f);
    }

    public int put(int k, int i, int j, int v) {
        if (!Operator.names(k, i, j)) {
            return NONE;
        }
        if (!within(v, -MOST, MOST)) {
            return BAD;
        }
        int at = Operator.index(k, i, j);
        int before = now.operator.numbers[at];
        now.operator.numbers[at] = v;
        return FAR + before;
    }

    public int get(int k, int i, int j) {
        return Operator.names(k, i, j) ? FAR + now.operator.numbers[Operator.index(k, i, j)] : NONE;
    }

    public int clear() {
        int before = Numbers.others(now.operator.numbers);
        Arrays.fill(now.operator.numbers, 0);
        return before;
    }

    public int order() {
        return now.operator.topDerivative();
    }

    public int work(int u, int v) {
        if (!within(u, 0, WIDE - 1) || !within(v, 0, DEEP - 1)) {
            return NONE;
        }
        lowering.apply(now.operator, now.f);
        return FAR + lowering.sum[u * DEEP + v];
    }

    public int right(int v) {
        if (!within(v, -1, DEEP - 1)) {
            return NONE;
        }
        if (Numbers.highest(now.f) < 1) {
            return STATE;
        }
        if (!lowering.toPowerOfS(now.operator, now.f)) {
            return NOT;
        }
        return v == -1 ? Numbers.highest(lowering.b) : FAR + lowering.b[v];
    }

    // ---- search

    public int search(int k, int d, int s) {
        if (!within(k, 1, 4) || !within(d, 0, 4) || !within(s, 0, 2)) {
            return BAD;
        }
        if (Numbers.highest(now.f) < 1) {
            return STATE;
        }
        return searching.seek(lowering, now, k, d, s) ? now.found.top : NOT;
    }

    public int found(int v) {
        if (!now.found.isThere()) {
            return STATE;
        }
        if (!within(v, -1, now.found.top)) {
            return NONE;
        }
        return v == -1 ? now.found.top : FAR + now.found.b[v];
    }

    public int foundOf(int k, int i, int j) {
        if (!Operator.names(k, i, j)) {
            return NONE;
        }
        if (!now.found.isThere()) {
            return STATE;
        }
        return FAR + now.found.operator.numbers[Operator.index(k, i, j)];
    }

    public int take() {
        if (!now.found.isThere()) {
            return STATE;
        }
        now.operator.become(now.found.operator);
        return now.operator.topDerivative();
    }

    public int roots() {
        return now.found.isThere() ? now.found.gatherRoots() : STATE;
    }

    public int root(int i, int what) {
        if (!now.found.isThere()) {
            return STATE;
        }
        if (!within(i, 0, now.found.gatherRoots() - 1)) {
            return NONE;
        }
        switch (what) {
            case 0:
                return now.found.above[i];
            case 1:
                return now.found.below[i];
            case 2:
                return now.found.often[i];
            default:
                return NONE;
        }
    }

    public int easy(int m, int v) {
        if (!within(m, 1, 4)) {
            return BAD;
        }
        if (!within(v, 0, m)) {
            return NONE;
        }
        Arrays.fill(product, 0);
        product[0] = 1;
        int part = Numbers.inverse(m);
        for (int k = 1; k <= m; k++) {
            int away = Numbers.fold((long) k * part);
            for (int at = k; at >= 0; at--) {
                long moved = at > 0 ? product[at - 1] : 0;
                product[at] = Numbers.fold(moved + (long) away * product[at]);
            }
        }
        return FAR + product[v];
    }

    public int direct(int n, int u) {
        if (!within(n, 0, 3)) {
            return BAD;
        }
        if (!within(u, 0, LONGEST)) {
            return NONE;
        }
        lowering.applyToWhole(now.operator, now.f, n);
        return FAR + lowering.whole[u];
    }

    public int checked(int n) {
        if (!within(n, 0, 3)) {
            return BAD;
        }
        if (!now.found.isThere()) {
            return STATE;
        }
        lowering.applyToWhole(now.operator, now.f, n);
        return lowering.wholeIs(now.found.at(n), now.f, n) ? 1 : 0;
    }

    // ---- values

    public int value(int bits) {
        return (int) floats.atPoint(now.f, floatPattern(bits));
    }

    public int slope(int bits) {
        return (int) floats.risingAt(now.f, floatPattern(bits));
    }

    public int steps(int bits, int n) {
        return within(n, 0, 20) ? (int) floats.towardsNought(now.f, floatPattern(bits), n) : BAD;
    }

    public int cut(int bits) {
        return floats.cutToInt(floats.atPoint(now.f, floatPattern(bits)));
    }

    public long valued(long bits) {
        return doubles.atPoint(now.f, bits);
    }

    public int narrowed(long bits) {
        return (int) floats.likeOther(doubles, doubles.atPoint(now.f, bits));
    }

    // ---- plans

    public int plan(int what, int v) {
        if (!within(what, 0, Plan.KINDS - 1)) {
            return NONE;
        }
        if (!within(v, -99, 99)) {
            return BAD;
        }
        if (now.plan.size >= Plan.LIMIT) {
            return FULL;
        }
        now.plan.append(what, v);
        return now.plan.size;
    }

    public int unplan() {
        int before = now.plan.size;
        now.plan.size = 0;
        return before;
    }

    public int run() {
        now.plan.change(now.f);
        return Numbers.highest(now.f);
    }

    public int ahead(int i) {
        if (!within(i, 0, TOP)) {
            return NONE;
        }
        System.arraycopy(now.f, 0, changed, 0, TOP + 1);
        now.plan.change(changed);
        return FAR + changed[i];
    }

    // ---- racks

    public int rack(int rack, int kind, int n) {
        if (!within(rack, 0, Racks.LAST) || !within(kind, -1, Racks.LAST_KIND)) {
            return NONE;
        }
        if (kind == -1) {
            racks.drop(rack);
            return 1;
        }
        if (n > Racks.PLACES) {
            return BAD;
        }
        if (n < 0) {
            return BELOW;
        }
        racks.make(rack, kind, n);
        return 1;
    }

    public int store(int rack, int i, int kind, int v) {
        if (!within(rack, 0, Racks.LAST) || !within(kind, 0, Racks.LAST_KIND)) {
            return NONE;
        }
        if (racks.kinds[rack] == -1) {
            return MISSING;
        }
        if (!within(i, 0, racks.sizes[rack] - 1)) {
            return PLACE;
        }
        if (racks.kinds[rack] != kind) {
            return CAST;
        }
        racks.bring(rack, i, v);
        return 1;
    }

    public long thing(int rack, int i) {
        if (!within(rack, 0, Racks.LAST) || racks.kinds[rack] == -1) {
            return VOID;
        }
        if (!within(i, 0, racks.sizes[rack] - 1) || !racks.holdsAt(rack, i)) {
            return VOID;
        }
        return racks.numberAt(rack, i);
    }

    public int copied(int rack, int other) {
        if (!within(rack, 0, Racks.LAST) || !within(other, 0, Racks.LAST)) {
            return NONE;
        }
        if (racks.kinds[rack] == -1) {
            return MISSING;
        }
        racks.copyTo(rack, other);
        return racks.sizes[rack];
    }

    // ---- texts, lists, the image

    public int feed(int letter) {
        if (!within(letter, 32, 126)) {
            return BAD;
        }
        if (texts.size >= Texts.LIMIT) {
            return FULL;
        }
        texts.append(letter);
        return texts.size;
    }

    public int wipe() {
        int before = texts.size;
        texts.size = 0;
        return before;
    }

    public int read() {
        int fault = texts.fault();
        texts.size = 0;
        if (fault != Texts.FINE) {
            return -100 - fault;
        }
        System.arraycopy(texts.told, 0, now.f, 0, TOP + 1);
        return Numbers.highest(now.f) + 10;
    }

    public int written(int i) {
        int length = texts.write(now.f);
        if (i == -1) {
            return length;
        }
        return within(i, 0, length - 1) ? texts.line[i] : NONE;
    }

    public int list(int list, int n) {
        if (!within(list, 0, Lists.LAST)) {
            return NONE;
        }
        if (n > Lists.PLACES) {
            return BAD;
        }
        if (n < -1) {
            return BELOW;
        }
        lists.make(list, n);
        return 1;
    }

    public int lay(int list, int i, long v) {
        if (!within(list, 0, Lists.LAST)) {
            return NONE;
        }
        if (lists.sizes[list] == -1) {
            return MISSING;
        }
        if (!within(i, 0, lists.sizes[list] - 1)) {
            return PLACE;
        }
        lists.longs[list * Lists.PLACES + i] = v;
        return 1;
    }

    public long look(int list, int i) {
        if (!within(list, 0, Lists.LAST) || !within(i, 0, lists.sizes[list] - 1)) {
            return VOID;
        }
        return lists.longs[list * Lists.PLACES + i];
    }

    public int judge(int list) {
        if (!within(list, 0, Lists.LAST)) {
            return NONE;
        }
        if (lists.sizes[list] == -1) {
            return MISSING;
        }
        if (!now.found.isThere()) {
            return STATE;
        }
        return lists.compare(list, now.found);
    }

    public int image() {
        kept.become(now);
        imaged = true;
        return Numbers.highest(now.f);
    }

    public int undo() {
        if (!imaged) {
            return STATE;
        }
        now.become(kept);
        return Numbers.highest(now.f);
    }

    public int count(int what) {
        switch (what) {
            case 0:
                return Numbers.others(now.f);
            case 1:
                return Numbers.others(now.operator.numbers);
            case 2:
                return now.plan.size;
            case 3:
                return texts.size;
            case 4:
                return Numbers.notBelow(racks.kinds);
            case 5:
                return Numbers.notBelow(lists.sizes);
            case 6:
                return now.found.isThere() ? 1 : 0;
            default:
                return NONE;
        }
    }

    private static boolean within(int n, int least, int most) {
        return n >= least && n <= most;
    }

    /** A float's bits without the sign's spreading, as Reals takes them. */
    private static long floatPattern(int bits) {
        return bits & 0xFFFFFFFFL;
    }

    /** Numbers modulo PRIME, and polynomials of one unknown (rows of such numbers). */
    private static final class Numbers {
        static int fold(long n) {
            int rest = (int) (n % PRIME);
            if (rest > MOST) {
                return rest - PRIME;
            }
            return rest < -MOST ? rest + PRIME : rest;
        }

        /** By Fermat, so that nothing is divided; 0 has none and answers 0. */
        static int inverse(int n) {
            int power = 1;
            int square = fold(n);
            for (int e = PRIME - 2; e > 0; e >>= 1) {
                if ((e & 1) == 1) {
                    power = fold((long) power * square);
                }
                square = fold((long) square * square);
            }
            return power;
        }

        /** The greatest place whose number is not 0; -1: there is none. */
        static int highest(int[] row) {
            for (int at = row.length - 1; at >= 0; at--) {
                if (row[at] != 0) {
                    return at;
                }
            }
            return -1;
        }

        /** How many numbers are not 0. */
        static int others(int[] row) {
            int many = 0;
            for (int number : row) {
                if (number != 0) {
                    many++;
                }
            }
            return many;
        }

        /** How many numbers are not below 0. */
        static int notBelow(int[] row) {
            int many = 0;
            for (int number : row) {
                if (number >= 0) {
                    many++;
                }
            }
            return many;
        }

        /** Downwards, so that the row itself can take the product. */
        static void multiply(int[] row, int[] f) {
            for (int at = row.length - 1; at >= 0; at--) {
                long sum = 0;
                for (int i = 0; i <= TOP && i <= at; i++) {
                    sum += (long) f[i] * row[at - i];
                }
                row[at] = fold(sum);
            }
        }

        static void raise(int[] row, int[] f, int n) {
            Arrays.fill(row, 0);
            row[0] = 1;
            for (int times = 0; times < n; times++) {
                multiply(row, f);
            }
        }

        static void derive(int[] row) {
            for (int at = 1; at < row.length; at++) {
                row[at - 1] = fold((long) at * row[at]);
            }
            row[row.length - 1] = 0;
        }
    }

    /** Numbers for each k (0 .. 4), i (0 .. 4), j (0 .. 2), in one row. */
    private static final class Operator {
        static final int LAST_K = 4;
        static final int LAST_I = 4;
        static final int LAST_J = 2;
        /** How many numbers one k has. */
        static final int EACH = 15;
        static final int ALL = 75;

        final int[] numbers = new int[ALL];

        static boolean names(int k, int i, int j) {
            return within(k, 0, LAST_K) && within(i, 0, LAST_I) && within(j, 0, LAST_J);
        }

        static int index(int k, int i, int j) {
            return k * EACH + i * (LAST_J + 1) + j;
        }

        int topDerivative() {
            int last = Numbers.highest(numbers);
            return last < 0 ? 0 : last / EACH;
        }

        void become(Operator other) {
            System.arraycopy(other.numbers, 0, numbers, 0, ALL);
        }
    }

    /** An operator by which the power s comes back times b, and b's roots. */
    private static final class Found {
        static final int LAST_A = 24;
        static final int LAST_C = 6;

        final Operator operator = new Operator();
        final int[] b = new int[DEEP];
        /** B; -1: nothing is found. */
        int top = -1;
        /** Of each root 0 less a by c: a, c, how often. */
        final int[] above = new int[DEEP];
        final int[] below = new int[DEEP];
        final int[] often = new int[DEEP];
        private final int[] rest = new int[DEEP];

        boolean isThere() {
            return top >= 0;
        }

        void become(Found other) {
            operator.become(other.operator);
            System.arraycopy(other.b, 0, b, 0, DEEP);
            top = other.top;
        }

        void forget() {
            Arrays.fill(operator.numbers, 0);
            Arrays.fill(b, 0);
            top = -1;
        }

        int at(int s) {
            long sum = 0;
            for (int v = DEEP - 1; v >= 0; v--) {
                sum = Numbers.fold(sum * s + b[v]);
            }
            return (int) sum;
        }

        /** Fractions in lowest terms differ modulo PRIME as well, so b has no more of them than places. */
        int gatherRoots() {
            int many = 0;
            for (int c = 1; c <= LAST_C; c++) {
                int part = Numbers.inverse(c);
                for (int a = 0; a <= LAST_A; a++) {
                    int times = lowest(a, c) ? timesDivided(Numbers.fold(-(long) a * part)) : 0;
                    if (times > 0 && many < DEEP) {
                        above[many] = a;
                        below[many] = c;
                        often[many] = times;
                        many++;
                    }
                }
            }
            return many;
        }

        private static boolean lowest(int a, int c) {
            for (int divisor = 2; divisor <= c; divisor++) {
                if (a % divisor == 0 && c % divisor == 0) {
                    return false;
                }
            }
            return true;
        }

        private int timesDivided(int root) {
            if (at(root) != 0) {
                return 0;
            }
            System.arraycopy(b, 0, rest, 0, DEEP);
            int times = 0;
            while (times < top && dividesRest(root)) {
                times++;
            }
            return times;
        }

        /** Divides rest by s less root in its place; what is left over stands at the row's first number. */
        private boolean dividesRest(int root) {
            for (int v = DEEP - 2; v >= 0; v--) {
                rest[v] = Numbers.fold(rest[v] + (long) root * rest[v + 1]);
            }
            if (rest[0] != 0) {
                return false;
            }
            System.arraycopy(rest, 1, rest, 0, DEEP - 1);
            rest[DEEP - 1] = 0;
            return true;
        }
    }

    /** Changes of F told by hand. */
    private static final class Plan {
        static final int LIMIT = 8;
        static final int KINDS = 5;

        private final int[] kinds = new int[LIMIT];
        private final int[] amounts = new int[LIMIT];
        int size = 0;

        void append(int kind, int amount) {
            if (size < LIMIT) {
                kinds[size] = kind;
                amounts[size] = amount;
                size++;
            }
        }

        void become(Plan other) {
            System.arraycopy(other.kinds, 0, kinds, 0, LIMIT);
            System.arraycopy(other.amounts, 0, amounts, 0, LIMIT);
            size = other.size;
        }

        void change(int[] f) {
            for (int at = 0; at < size && at < LIMIT; at++) {
                changeOnce(f, kinds[at], amounts[at]);
            }
        }

        private static void changeOnce(int[] f, int kind, int v) {
            switch (kind) {
                case 0:
                    move(f, v);
                    break;
                case 1:
                    stretch(f, v, 1);
                    break;
                case 2:
                    turn(f);
                    break;
                case 3:
                    Numbers.derive(f);
                    break;
                default:
                    stretch(f, 1, v);
                    break;
            }
        }

        /** F of x and v, by repeated division by x less v. */
        private static void move(int[] f, int v) {
            for (int from = 0; from < TOP; from++) {
                for (int at = TOP - 1; at >= from; at--) {
                    f[at] = Numbers.fold(f[at] + (long) v * f[at + 1]);
                }
            }
        }

        private static void stretch(int[] f, int first, int ratio) {
            int factor = first;
            for (int at = 0; at <= TOP; at++) {
                f[at] = Numbers.fold((long) factor * f[at]);
                factor = Numbers.fold((long) factor * ratio);
            }
        }

        private static void turn(int[] f) {
            for (int at = 0; at < TOP - at; at++) {
                int low = f[at];
                f[at] = f[TOP - at];
                f[TOP - at] = low;
            }
        }
    }

    /** What an image keeps. */
    private static final class State {
        final int[] f = new int[TOP + 1];
        final Operator operator = new Operator();
        final Found found = new Found();
        final Plan plan = new Plan();

        State() {
            f[2] = 1;
        }

        void become(State other) {
            System.arraycopy(other.f, 0, f, 0, TOP + 1);
            operator.become(other.operator);
            found.become(other.found);
            plan.become(other.plan);
        }
    }

    /** What operators make of powers of F. A grid has the number at x to the u, s to the v at u * DEEP + v. */
    private static final class Lowering {
        static final int GRID = WIDE * DEEP;

        /** WORK's polynomial behind apply(). */
        final int[] sum = new int[GRID];
        /** RIGHT behind toPowerOfS(). */
        final int[] b = new int[DEEP];
        /** DIRECT behind applyToWhole(). */
        final int[] whole = new int[LONGEST + 1];
        /** What k derivatives alone leave over F to the power s and 1 less k. */
        private final int[] derived = new int[GRID];
        private final int[] next = new int[GRID];
        private final int[] power = new int[WIDE];

        void startDeriving() {
            Arrays.fill(derived, 0);
            derived[0] = 1;
        }

        /** From k derivatives to one more: both parts of the rule take from the same place of the row. */
        void deriveMore(int[] f, int k) {
            for (int u = 0; u < WIDE; u++) {
                for (int v = 0; v < DEEP; v++) {
                    long total = 0;
                    for (int i = 0; i <= TOP; i++) {
                        int from = u - i + 1;
                        if (from >= 0 && from < WIDE && f[i] != 0) {
                            long here = derived[from * DEEP + v];
                            long lower = v > 0 ? derived[from * DEEP + v - 1] : 0;
                            total += f[i] * ((from + i * (1 - k)) * here + i * lower);
                        }
                    }
                    next[u * DEEP + v] = Numbers.fold(total);
                }
            }
            System.arraycopy(next, 0, derived, 0, GRID);
        }

        /** Fills a grid with what the derivatives leave, times F as often as told. */
        void spread(int[] grid, int[] f, int times) {
            System.arraycopy(derived, 0, grid, 0, GRID);
            for (int time = 0; time < times; time++) {
                multiplyGrid(grid, f);
            }
        }

        private static void multiplyGrid(int[] grid, int[] f) {
            for (int u = WIDE - 1; u >= 0; u--) {
                for (int v = 0; v < DEEP; v++) {
                    long total = 0;
                    for (int i = 0; i <= TOP && i <= u; i++) {
                        total += (long) f[i] * grid[(u - i) * DEEP + v];
                    }
                    grid[u * DEEP + v] = Numbers.fold(total);
                }
            }
        }

        void apply(Operator operator, int[] f) {
            Arrays.fill(sum, 0);
            startDeriving();
            int last = operator.topDerivative();
            for (int k = 0; k <= last; k++) {
                if (k > 0) {
                    multiplyGrid(sum, f);
                    deriveMore(f, k - 1);
                }
                addShifted(operator, k);
            }
        }

        private void addShifted(Operator operator, int k) {
            for (int i = 0; i <= Operator.LAST_I; i++) {
                for (int j = 0; j <= Operator.LAST_J; j++) {
                    int number = operator.numbers[Operator.index(k, i, j)];
                    if (number != 0) {
                        addTimes(number, i, j);
                    }
                }
            }
        }

        private void addTimes(int number, int i, int j) {
            for (int u = i; u < WIDE; u++) {
                for (int v = j; v < DEEP; v++) {
                    int at = u * DEEP + v;
                    sum[at] = Numbers.fold(sum[at] + (long) number * derived[(u - i) * DEEP + v - j]);
                }
            }
        }

        /** Whether there is a RIGHT; F's degree is 1 or more, so order 0 leaves none but 0. */
        boolean toPowerOfS(Operator operator, int[] f) {
            apply(operator, f);
            int last = operator.topDerivative();
            if (last == 0) {
                Arrays.fill(b, 0);
                return Numbers.highest(sum) < 0;
            }
            Numbers.raise(power, f, last - 1);
            int high = Numbers.highest(power);
            if (high < 0) {
                return false;
            }
            int part = Numbers.inverse(power[high]);
            for (int v = 0; v < DEEP; v++) {
                b[v] = Numbers.fold((long) part * sum[high * DEEP + v]);
            }
            return sumIsBTimesPower();
        }

        private boolean sumIsBTimesPower() {
            for (int u = 0; u < WIDE; u++) {
                for (int v = 0; v < DEEP; v++) {
                    if (sum[u * DEEP + v] != Numbers.fold((long) b[v] * power[u])) {
                        return false;
                    }
                }
            }
            return true;
        }

        void applyToWhole(Operator operator, int[] f, int n) {
            Numbers.raise(power, f, n + 1);
            Arrays.fill(whole, 0);
            for (int k = 0; k <= Operator.LAST_K; k++) {
                if (k > 0) {
                    Numbers.derive(power);
                }
                for (int i = 0; i <= Operator.LAST_I; i++) {
                    addWhole(factorOf(operator, k, i, n), i);
                }
            }
        }

        /** The numbers of one k and i, with s being n. */
        private static int factorOf(Operator operator, int k, int i, int n) {
            long total = 0;
            for (int j = Operator.LAST_J; j >= 0; j--) {
                total = total * n + operator.numbers[Operator.index(k, i, j)];
            }
            return Numbers.fold(total);
        }

        private void addWhole(int factor, int i) {
            for (int u = i; u <= LONGEST; u++) {
                whole[u] = Numbers.fold(whole[u] + (long) factor * power[u - i]);
            }
        }

        boolean wholeIs(int factor, int[] f, int n) {
            Numbers.raise(power, f, n);
            for (int u = 0; u <= LONGEST; u++) {
                if (whole[u] != Numbers.fold((long) factor * power[u])) {
                    return false;
                }
            }
            return true;
        }
    }

    /**
     * The search: columns are taken one by one, each less what those ahead of it explain;
     * what remains of a column, if anything, becomes a step for those behind it.
     */
    private static final class Search {
        /** Columns at most: an operator's and one for each power of s. */
        private static final int LIMIT = Operator.ALL + DEEP;

        /** Steps, a grid each: the first number that is not 0 (at lead) is 1, the last one is at end. */
        private final int[] steps = new int[LIMIT * Lowering.GRID];
        private final int[] lead = new int[LIMIT];
        private final int[] end = new int[LIMIT];
        /** Which column a step came of, and by what that was divided (as a factor). */
        private final int[] source = new int[LIMIT];
        private final int[] scale = new int[LIMIT];
        /** How often a step's column had each step ahead of it. */
        private final int[] shares = new int[LIMIT * LIMIT];
        private final int[] column = new int[Lowering.GRID];
        private final int[] share = new int[LIMIT];
        private final int[] base = new int[Lowering.GRID];
        private int size = 0;

        /** Whether something is found; it is told to the state then. */
        boolean seek(Lowering lowering, State state, int lastK, int lastI, int lastJ) {
            size = 0;
            state.found.forget();
            lowering.startDeriving();
            for (int k = 0; k <= lastK; k++) {
                if (k > 0) {
                    lowering.deriveMore(state.f, k - 1);
                }
                lowering.spread(base, state.f, lastK - k);
                takeOperators(k, lastI, lastJ);
            }
            lowering.startDeriving();
            lowering.spread(base, state.f, lastK - 1);
            for (int v = 0; v < DEEP; v++) {
                shift(0, v);
                if (explained()) {
                    tell(state.found, v);
                    return true;
                }
                keep(Operator.ALL + v);
            }
            return false;
        }

        private void takeOperators(int k, int lastI, int lastJ) {
            for (int i = 0; i <= lastI; i++) {
                for (int j = 0; j <= lastJ; j++) {
                    shift(i, j);
                    if (!explained()) {
                        keep(Operator.index(k, i, j));
                    }
                }
            }
        }

        /** The column becomes base times x to the i, s to the j. */
        private void shift(int i, int j) {
            Arrays.fill(column, 0);
            for (int u = i; u < WIDE; u++) {
                for (int v = j; v < DEEP; v++) {
                    column[u * DEEP + v] = base[(u - i) * DEEP + v - j];
                }
            }
        }

        /** Takes from the column what the steps explain, noting their shares: whether nothing remains. */
        private boolean explained() {
            for (int step = 0; step < size; step++) {
                int factor = column[lead[step]];
                share[step] = factor;
                if (factor != 0) {
                    int from = step * Lowering.GRID;
                    for (int at = lead[step]; at <= end[step]; at++) {
                        column[at] = (column[at] - factor * steps[from + at]) % PRIME;
                    }
                }
            }
            return Numbers.highest(column) < 0;
        }

        private void keep(int from) {
            int first = firstOther();
            if (size >= LIMIT || first < 0) {
                return;
            }
            lead[size] = first;
            end[size] = Numbers.highest(column);
            source[size] = from;
            scale[size] = Numbers.inverse(column[first]);
            for (int at = 0; at < Lowering.GRID; at++) {
                steps[size * Lowering.GRID + at] = Numbers.fold((long) scale[size] * column[at]);
            }
            System.arraycopy(share, 0, shares, size * LIMIT, size);
            size++;
        }

        private int firstOther() {
            for (int at = 0; at < Lowering.GRID; at++) {
                if (column[at] != 0) {
                    return at;
                }
            }
            return -1;
        }

        /** Turns the shares of steps into numbers of columns, the last step first. */
        private void tell(Found found, int top) {
            for (int step = size - 1; step >= 0; step--) {
                int number = Numbers.fold((long) share[step] * scale[step]);
                for (int earlier = 0; earlier < step; earlier++) {
                    share[earlier] = (share[earlier] - number * shares[step * LIMIT + earlier]) % PRIME;
                }
                if (source[step] < Operator.ALL) {
                    found.operator.numbers[source[step]] = number;
                } else {
                    found.b[source[step] - Operator.ALL] = -number;
                }
            }
            found.b[top] = 1;
            found.top = top;
        }
    }

    /** Rows of places that hold things of one kind alone. */
    private static final class Racks {
        static final int LAST = 2;
        static final int LAST_KIND = 2;
        static final int PLACES = 10;

        /** -1: the rack holds nothing. */
        final int[] kinds = new int[LAST + 1];
        final int[] sizes = new int[LAST + 1];
        private final int[] things = new int[(LAST + 1) * PLACES];
        private final boolean[] full = new boolean[(LAST + 1) * PLACES];

        Racks() {
            Arrays.fill(kinds, -1);
        }

        void drop(int rack) {
            kinds[rack] = -1;
            sizes[rack] = 0;
        }

        void make(int rack, int kind, int size) {
            kinds[rack] = kind;
            sizes[rack] = size;
            for (int i = 0; i < PLACES; i++) {
                full[rack * PLACES + i] = false;
            }
        }

        void bring(int rack, int i, int number) {
            things[rack * PLACES + i] = number;
            full[rack * PLACES + i] = true;
        }

        boolean holdsAt(int rack, int i) {
            return full[rack * PLACES + i];
        }

        int numberAt(int rack, int i) {
            return things[rack * PLACES + i];
        }

        void copyTo(int rack, int other) {
            kinds[other] = kinds[rack];
            sizes[other] = sizes[rack];
            for (int i = 0; i < PLACES; i++) {
                things[other * PLACES + i] = things[rack * PLACES + i];
                full[other * PLACES + i] = full[rack * PLACES + i];
            }
        }
    }

    /** Lists of longs that tell b. */
    private static final class Lists {
        static final int LAST = 2;
        static final int PLACES = 12;

        /** -1: the list is missing. */
        final int[] sizes = new int[LAST + 1];
        final long[] longs = new long[(LAST + 1) * PLACES];

        Lists() {
            Arrays.fill(sizes, -1);
        }

        void make(int list, int size) {
            sizes[list] = size;
            for (int i = 0; i < PLACES; i++) {
                longs[list * PLACES + i] = 0;
            }
        }

        int compare(int list, Found found) {
            int size = sizes[list];
            for (int i = 0; i < size; i++) {
                if (i > found.top || longs[list * PLACES + i] != found.b[i]) {
                    return i;
                }
            }
            return size <= found.top ? 100 + size : NOT;
        }
    }

    /** The tape, what its text tells, and F as a text. */
    private static final class Texts {
        static final int LIMIT = 60;
        static final int FINE = -1;
        /** Where a text stands: ahead of all, ahead of a term, behind figures, x, ^, a power; or nowhere. */
        private static final int OPENING = 0, TERM = 1, FIGURES = 2, UNKNOWN = 3, CARET = 4, POWER = 5, NOWHERE = 6;
        /** Five numbers of four figures with all their signs are 35 bytes. */
        private static final int LINE = 40;

        int size = 0;
        /** The numbers of F by the tape's text, behind fault(). */
        final int[] told = new int[TOP + 1];
        /** F's text, behind write(). */
        final int[] line = new int[LINE];
        private final int[] tape = new int[LIMIT];
        private int length = 0;
        /** The term that is being read. */
        private int sign = 1;
        private int number = 0;
        private int figures = 0;
        private int power = 0;

        void append(int letter) {
            if (size < LIMIT) {
                tape[size] = letter;
                size++;
            }
        }

        int fault() {
            Arrays.fill(told, 0);
            startTerm(1);
            int at = OPENING;
            for (int i = 0; i < size && i < LIMIT; i++) {
                at = step(at, tape[i]);
                if (at == NOWHERE) {
                    return i;
                }
            }
            if (!mayEnd(at)) {
                return size;
            }
            endTerm();
            return FINE;
        }

        private static boolean mayEnd(int at) {
            return at == FIGURES || at == UNKNOWN || at == POWER;
        }

        private int step(int at, int letter) {
            if (letter >= '0' && letter <= '9') {
                return stepFigure(at, letter - '0');
            }
            switch (letter) {
                case 'x':
                    return stepUnknown(at);
                case '^':
                    return at == UNKNOWN ? CARET : NOWHERE;
                case '+':
                case '-':
                    return stepSign(at, letter == '-' ? -1 : 1);
                default:
                    return NOWHERE;
            }
        }

        private int stepFigure(int at, int figure) {
            if (at == CARET) {
                power = figure;
                return figure <= TOP ? POWER : NOWHERE;
            }
            if (at == OPENING || at == TERM || at == FIGURES && figures < 3) {
                number = number * 10 + figure;
                figures++;
                return FIGURES;
            }
            return NOWHERE;
        }

        private int stepUnknown(int at) {
            if (at == OPENING || at == TERM) {
                number = 1;
            } else if (at != FIGURES) {
                return NOWHERE;
            }
            power = 1;
            return UNKNOWN;
        }

        private int stepSign(int at, int next) {
            if (mayEnd(at)) {
                endTerm();
            } else if (at != OPENING || next > 0) {
                return NOWHERE;
            }
            startTerm(next);
            return TERM;
        }

        private void startTerm(int next) {
            sign = next;
            number = 0;
            figures = 0;
            power = 0;
        }

        private void endTerm() {
            if (within(power, 0, TOP)) {
                told[power] = Numbers.fold(told[power] + (long) sign * number);
            }
        }

        /** How many bytes the line has then. */
        int write(int[] f) {
            length = 0;
            for (int at = TOP; at >= 0; at--) {
                if (f[at] != 0) {
                    writeTerm(f[at], at);
                }
            }
            if (length == 0) {
                writeByte('0');
            }
            return length;
        }

        private void writeTerm(int n, int at) {
            if (n < 0) {
                writeByte('-');
            } else if (length > 0) {
                writeByte('+');
            }
            int size = n < 0 ? -n : n;
            if (size != 1 || at == 0) {
                writeFigures(size);
            }
            if (at > 0) {
                writeByte('x');
            }
            if (at > 1) {
                writeByte('^');
                writeByte('0' + at);
            }
        }

        private void writeFigures(int n) {
            for (int unit = 1000; unit > 0; unit /= 10) {
                if (n >= unit) {
                    writeByte('0' + n / unit % 10);
                }
            }
        }

        private void writeByte(int letter) {
            if (length < LINE) {
                line[length] = letter;
                length++;
            }
        }
    }

    /**
     * Floats or doubles, told by their bits and reckoned with whole numbers alone, so that
     * a NaN is a pattern of bits here and never comes of the machine's own reckoning.
     * A number that is neither 0 nor infinite is sign, SIGNIFICAND (its highest bit at LEAD)
     * and exponent: significand by 2 to the LEAD, times 2 to the exponent.
     */
    private static final class Reals {
        private static final int LEAD = 62;
        private static final long LEADING = 1L << LEAD;
        /** Bits of a significand that a product takes, and of half of one. */
        private static final int FACTOR = 53;
        private static final int HALF = 27;
        private static final long HALF_MASK = (1L << HALF) - 1;
        /** Bits that a quotient takes of floats' significands. */
        private static final int SHORT = 24;

        private final int fraction;
        private final int bias;
        private final int most;
        private final long signBit;
        private final long infinite;
        private final long nan;

        Reals(int fractionBits, int exponentBits) {
            fraction = fractionBits;
            most = (1 << exponentBits) - 1;
            bias = most / 2;
            signBit = 1L << (fractionBits + exponentBits);
            infinite = (long) most << fractionBits;
            nan = infinite | 1L << (fractionBits - 1);
        }

        /** VALUE. */
        long atPoint(int[] f, long x) {
            long sum = 0;
            for (int i = TOP; i >= 0; i--) {
                sum = plus(times(sum, x), ofWhole(f[i]));
            }
            return sum;
        }

        /** SLOPE. */
        long risingAt(int[] f, long x) {
            long sum = 0;
            for (int i = TOP; i >= 1; i--) {
                sum = plus(times(sum, x), ofWhole(i * f[i]));
            }
            return sum;
        }

        /** STEPS, for floats alone. */
        long towardsNought(int[] f, long from, int n) {
            long x = magnitude(from) > infinite ? nan : from;
            for (int step = 0; step < n; step++) {
                x = plus(x, signBit ^ shortQuotient(atPoint(f, x), risingAt(f, x)));
            }
            return x;
        }

        /** As a cast of a float to an int does. */
        int cutToInt(long bits) {
            long size = magnitude(bits);
            if (size > infinite || size == 0) {
                return 0;
            }
            boolean negative = (bits & signBit) != 0;
            int exponent = exponentOf(size);
            if (exponent < 0) {
                return 0;
            }
            if (exponent > 30) {
                return negative ? Integer.MIN_VALUE : Integer.MAX_VALUE;
            }
            int whole = (int) (significandOf(size) >>> (LEAD - exponent));
            return negative ? -whole : whole;
        }

        /** The nearest of these to bits of other ones. */
        long likeOther(Reals other, long bits) {
            long size = other.magnitude(bits);
            if (size > other.infinite) {
                return nan;
            }
            long sign = (bits & other.signBit) != 0 ? signBit : 0;
            if (size == other.infinite) {
                return sign | infinite;
            }
            return size == 0 ? sign : rounded(sign, other.exponentOf(size), other.significandOf(size));
        }

        private long ofWhole(int n) {
            if (n == 0) {
                return 0;
            }
            long size = n < 0 ? -(long) n : n;
            int gap = gapOf(size);
            return rounded(n < 0 ? signBit : 0, LEAD - gap, size << gap);
        }

        private long magnitude(long bits) {
            return bits & (signBit - 1);
        }

        private long plus(long a, long b) {
            long x = magnitude(a);
            long y = magnitude(b);
            if (x < y) {
                return plusLesser(b, a, y, x);
            }
            return plusLesser(a, b, x, y);
        }

        /** With x, the size of a, not below y, the size of b. */
        private long plusLesser(long a, long b, long x, long y) {
            boolean alike = ((a ^ b) & signBit) == 0;
            if (x > infinite || x == infinite && y == infinite && !alike) {
                return nan;
            }
            if (y == 0) {
                return x == 0 && !alike ? 0 : a;
            }
            if (x == infinite) {
                return a;
            }
            int exponent = exponentOf(x);
            long greater = significandOf(x) >>> 1;
            long lesser = lowered(significandOf(y) >>> 1, exponent - exponentOf(y));
            long sum = alike ? greater + lesser : greater - lesser;
            if (sum == 0) {
                return 0;
            }
            int gap = gapOf(sum);
            return rounded(a & signBit, exponent + 1 - gap, sum << gap);
        }

        /** Shifted down; the lowest bit tells of what went beyond it, as rounding must know. */
        private static long lowered(long significand, int places) {
            if (places > LEAD) {
                return 1;
            }
            long lost = significand & ((1L << places) - 1);
            return significand >>> places | (lost != 0 ? 1 : 0);
        }

        private long times(long a, long b) {
            long sign = (a ^ b) & signBit;
            long x = magnitude(a);
            long y = magnitude(b);
            if (x > infinite || y > infinite) {
                return nan;
            }
            if (x == infinite || y == infinite) {
                return x == 0 || y == 0 ? nan : sign | infinite;
            }
            if (x == 0 || y == 0) {
                return sign;
            }
            long product = highProduct(significandOf(x) >>> (LEAD + 1 - FACTOR), significandOf(y) >>> (LEAD + 1 - FACTOR));
            int gap = gapOf(product);
            return rounded(sign, exponentOf(x) + exponentOf(y) + 1 - gap, product << gap);
        }

        /** The highest 63 of the 106 bits of a product of two factors, the lowest one telling of the rest. */
        private static long highProduct(long p, long q) {
            long highP = p >>> HALF;
            long lowP = p & HALF_MASK;
            long highQ = q >>> HALF;
            long lowQ = q & HALF_MASK;
            long middle = highP * lowQ + lowP * highQ;
            long low = lowP * lowQ + ((middle & HALF_MASK) << HALF);
            long high = highP * highQ + (middle >>> HALF) + (low >>> (2 * HALF));
            long rest = low & ((1L << (2 * HALF)) - 1);
            int more = LEAD + 1 - (2 * FACTOR - 2 * HALF);
            int less = 2 * HALF - more;
            long lost = rest & ((1L << less) - 1);
            return high << more | rest >>> less | (lost != 0 ? 1 : 0);
        }

        /** a by b, for floats alone: their significands leave room for a quotient in one long. */
        private long shortQuotient(long a, long b) {
            long sign = (a ^ b) & signBit;
            long x = magnitude(a);
            long y = magnitude(b);
            if (x > infinite || y > infinite || x == infinite && y == infinite) {
                return nan;
            }
            if (x == infinite) {
                return sign | infinite;
            }
            if (y == infinite) {
                return sign;
            }
            long divisor = y == 0 ? 0 : significandOf(y) >>> (LEAD + 1 - SHORT);
            if (divisor == 0) {
                return x == 0 ? nan : sign | infinite;
            }
            if (x == 0) {
                return sign;
            }
            long dividend = significandOf(x) >>> (LEAD + 1 - SHORT) << (LEAD + 1 - SHORT);
            long quotient = dividend / divisor;
            long whole = quotient << SHORT - 2 | (dividend % divisor != 0 ? 1 : 0);
            int gap = gapOf(whole);
            return rounded(sign, exponentOf(x) - exponentOf(y) + 1 - gap, whole << gap);
        }

        /** How far the highest bit is below LEAD. */
        private static int gapOf(long significand) {
            int gap = 0;
            while (gap < LEAD && significand << gap < LEADING) {
                gap++;
            }
            return gap;
        }

        private int exponentOf(long size) {
            int field = (int) (size >>> fraction);
            if (field != 0) {
                return field - bias;
            }
            return 1 - bias - gapOf(size << (LEAD - fraction));
        }

        private long significandOf(long size) {
            long own = size & ((1L << fraction) - 1);
            if (size >>> fraction != 0) {
                return (own | 1L << fraction) << (LEAD - fraction);
            }
            long low = own << (LEAD - fraction);
            return low << gapOf(low);
        }

        /** To the nearest, of two as near the even one; below the least exponent fewer bits are left. */
        private long rounded(long sign, int exponent, long significand) {
            int field = exponent + bias;
            if (field >= most) {
                return sign | infinite;
            }
            int drop = LEAD - fraction;
            if (field < 1) {
                drop += 1 - field;
                field = 1;
            }
            if (drop > LEAD + 1) {
                return sign;
            }
            long keep = significand >>> drop;
            long rest = significand & ((1L << drop) - 1);
            long half = 1L << (drop - 1);
            if (rest > half || rest == half && (keep & 1) == 1) {
                keep++;
            }
            return sign | ((long) (field - 1) << fraction) + keep;
        }
    }
}
