import java.util.function.Consumer;
import java.util.function.Supplier;
import java.util.function.ToLongFunction;

/**
 * "What is asked changes nothing" and "What is answered so changes nothing": a call upon one object, and all that
 * can be told of it then, against a like object without the call.
 */
public final class RefusalsTest extends Edges {
    private Supplier<LoweredPowers> scene;
    private Portrait untouched;

    private RefusalsTest() {
        super("RefusalsTest");
    }

    public static void main(String[] args) {
        new RefusalsTest().all();
    }

    private void all() {
        inScene(RefusalsTest::full);
        refusedByArguments();
        refusedByWhatIsFull();
        refusedByRacksAndLists();
        askedOfAll();
        notOfSearch();
        inScene(RefusalsTest::withoutX);
        refusedByDegree();
        askedOfAll();
        inScene(RefusalsTest::bare);
        refusedByNothingFound();
        refusedByArguments();
        askedOfAll();
        faultsOfRead();
        checks.end();
    }

    /** Everything holds something: a full plan, a full tape, an image of other things. */
    private static LoweredPowers full() {
        LoweredPowers x = by("3x^4-x+2");
        x.put(1, 2, 0, 44);
        x.plan(4, 3);
        x.search(1, 3, 1);
        x.image();
        x.unplan();
        x.set(4, 0);
        x.set(2, -1);
        x.search(1, 4, 2);
        x.put(4, 4, 2, -7);
        for (int n = 0; n < 8; n++) {
            x.plan(n % 5, n - 4);
        }
        racksAndLists(x);
        feedAll(x, "10");
        for (int n = 0; n < 29; n++) {
            feedAll(x, "-x");
        }
        return x;
    }

    private static void racksAndLists(LoweredPowers x) {
        x.rack(0, 0, 3);
        x.store(0, 1, 0, 5);
        x.rack(2, 2, 10);
        x.store(2, 9, 2, -5);
        x.list(0, 2);
        x.lay(0, 0, 1);
        x.lay(0, 1, 1);
        x.list(2, 12);
        x.lay(2, 11, Long.MAX_VALUE);
    }

    /** F has no x, but something was found before. */
    private static LoweredPowers withoutX() {
        LoweredPowers x = by("x^3");
        x.search(3, 0, 0);
        x.take();
        x.plan(0, 7);
        x.image();
        tell(x, "9");
        x.feed('5');
        return x;
    }

    /** Nothing found, no image, a rack and a list without a place. */
    private static LoweredPowers bare() {
        LoweredPowers x = new LoweredPowers();
        x.rack(1, 1, 0);
        x.list(1, 0);
        x.feed('x');
        return x;
    }

    private void inScene(Supplier<LoweredPowers> next) {
        scene = next;
        untouched = new Portrait(scene.get());
        checks.holds("a portrait stays within an object's calls", untouched.size() < 512 - 110);
        same("the scene itself", new Portrait(scene.get()), "");
    }

    private void same(String call, Portrait got, String aside) {
        String otherwise = got.firstOtherwise(untouched, aside);
        checks.holds(call + " changes nothing: " + otherwise, otherwise.isEmpty());
    }

    private void refused(String call, long want, ToLongFunction<LoweredPowers> made) {
        LoweredPowers x = scene.get();
        due(call, made.applyAsLong(x), want);
        same(call, new Portrait(x), "");
    }

    private void asked(String call, Consumer<LoweredPowers> made) {
        LoweredPowers x = scene.get();
        made.accept(x);
        same(call, new Portrait(x), "");
    }

    private void refusedByArguments() {
        says("What is answered so changes nothing: arguments");
        refused("set i", NONE, x -> x.set(5, 1));
        refused("set v", BAD, x -> x.set(4, 5004));
        refused("put k", NONE, x -> x.put(5, 0, 0, 1));
        refused("put i", NONE, x -> x.put(0, 5, 0, 1));
        refused("put j", NONE, x -> x.put(0, 0, 3, 1));
        refused("put v", BAD, x -> x.put(0, 0, 0, -5004));
        refused("search k", BAD, x -> x.search(5, 0, 0));
        refused("search d", BAD, x -> x.search(1, 5, 0));
        refused("search s", BAD, x -> x.search(1, 0, -1));
        refused("plan what", NONE, x -> x.plan(5, 0));
        refused("plan v", BAD, x -> x.plan(0, 100));
        refused("rack", NONE, x -> x.rack(3, 0, 0));
        refused("rack nothing", NONE, x -> x.rack(-1, -1, 0));
        refused("rack kind", NONE, x -> x.rack(0, 3, 0));
        refused("rack above", BAD, x -> x.rack(0, 0, 11));
        refused("rack below", BELOW, x -> x.rack(2, 0, -1));
        refused("store", NONE, x -> x.store(3, 0, 0, 1));
        refused("store kind", NONE, x -> x.store(0, 0, 3, 1));
        refused("copied", NONE, x -> x.copied(3, 0));
        refused("copied other", NONE, x -> x.copied(0, 3));
        refused("feed", BAD, x -> x.feed(127));
        refused("list", NONE, x -> x.list(3, 0));
        refused("list missing", NONE, x -> x.list(-1, -1));
        refused("list above", BAD, x -> x.list(0, 13));
        refused("list below", BELOW, x -> x.list(2, -2));
        refused("lay", NONE, x -> x.lay(3, 0, 1));
    }

    private void refusedByWhatIsFull() {
        says("What is answered so changes nothing: FULL");
        refused("plan", FULL, x -> x.plan(1, 5));
        refused("feed", FULL, x -> x.feed('x'));
    }

    private void refusedByRacksAndLists() {
        says("What is answered so changes nothing: MISSING, PLACE, CAST, VOID");
        refused("store", MISSING, x -> x.store(1, 0, 0, 1));
        refused("store", PLACE, x -> x.store(0, 3, 0, 1));
        refused("store", PLACE, x -> x.store(2, -1, 2, 1));
        refused("store", CAST, x -> x.store(0, 1, 1, 9));
        refused("store", CAST, x -> x.store(2, 9, 0, 9));
        refused("copied to a full one", MISSING, x -> x.copied(1, 2));
        refused("lay", MISSING, x -> x.lay(1, 0, 1));
        refused("lay", PLACE, x -> x.lay(0, 2, 1));
        refused("lay", PLACE, x -> x.lay(2, -1, 1));
        refused("thing", VOID, x -> x.thing(1, 0));
        refused("look", VOID, x -> x.look(1, 0));
    }

    private void refusedByDegree() {
        says("What is answered so changes nothing: STATE by DEGREE");
        refused("search", STATE, x -> x.search(4, 4, 2));
        refused("right", STATE, x -> x.right(0));
    }

    private void refusedByNothingFound() {
        says("What is answered so changes nothing: STATE");
        refused("found", STATE, x -> x.found(0));
        refused("foundOf", STATE, x -> x.foundOf(0, 0, 0));
        refused("take", STATE, LoweredPowers::take);
        refused("roots", STATE, LoweredPowers::roots);
        refused("root", STATE, x -> x.root(0, 0));
        refused("checked", STATE, x -> x.checked(0));
        refused("judge", STATE, x -> x.judge(1));
        refused("undo", STATE, LoweredPowers::undo);
    }

    private void askedOfAll() {
        says("What is asked changes nothing");
        asked("of, degree, get, order", x -> x.of(x.degree() + x.get(4, 4, 2) + x.order()));
        asked("work", x -> x.work(24, 8));
        asked("right", x -> x.right(-1));
        asked("found, foundOf", x -> x.found(x.foundOf(1, 1, 1)));
        asked("roots, root", x -> x.root(x.roots(), 0));
        asked("easy", x -> x.easy(4, 2));
        asked("direct", x -> x.direct(3, 20));
        asked("checked", x -> x.checked(3));
        asked("value, slope", x -> x.value(x.slope(1069547520)));
        asked("steps", x -> x.steps(1069547520, 20));
        asked("cut", x -> x.cut(1069547520));
        asked("valued, narrowed", x -> x.narrowed(x.valued(4599676419421066581L)));
        asked("ahead", x -> x.ahead(4));
        asked("thing", x -> x.thing(0, 0));
        asked("written", x -> x.written(x.written(-1) - 1));
        asked("look", x -> x.look(0, 0));
        asked("judge", x -> x.judge(0));
        asked("count", x -> x.count(6));
    }

    private void notOfSearch() {
        says("but FOUND by NOT of search()");
        LoweredPowers x = scene.get();
        due("search", x.search(1, 0, 0), NOT);
        Portrait got = new Portrait(x);
        same("NOT", got, "found");
        checks.holds("NOT changes FOUND", !got.firstOtherwise(untouched, "").isEmpty());
    }

    /** A read that fails leaves all but the tape: as wipe() does. */
    private void faultsOfRead() {
        says("but THE TAPE, which is empty behind each read()");
        for (String text : new String[] {"+", "^2+^x", "y+1"}) {
            scene = () -> {
                LoweredPowers x = bare();
                feedAll(x, text);
                return x;
            };
            LoweredPowers wiped = scene.get();
            wiped.wipe();
            untouched = new Portrait(wiped);
            LoweredPowers x = scene.get();
            due("read x" + text, x.read() <= -100 ? 1 : 0, 1);
            same("read", new Portrait(x), "");
        }
    }
}
