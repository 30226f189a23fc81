import java.util.ArrayList;
import java.util.List;

/** All that an object's calls can tell of its state; asking for it uses the object up, in some 390 calls. */
final class Portrait {
    private final List<String> names = new ArrayList<>();
    private final List<Long> answers = new ArrayList<>();

    Portrait(LoweredPowers x) {
        nowOf(x, "", 75);
        racksOf(x);
        listsOf(x);
        note("count 3", x.count(3));
        note("read", x.read());
        polynomialOf(x, "told by the tape: ");
        note("undo", x.undo());
        // what searches of these tests find has few derivatives: the last numbers need not be asked for twice
        nowOf(x, "image: ", 45);
    }

    private void note(String name, long answer) {
        names.add(name);
        answers.add(answer);
    }

    private void polynomialOf(LoweredPowers x, String when) {
        for (int i = 0; i < 5; i++) {
            note(when + "of " + i, x.of(i));
        }
    }

    private void nowOf(LoweredPowers x, String when, int foundNumbers) {
        polynomialOf(x, when);
        note(when + "plan", x.count(2));
        for (int i = 0; i < 5; i++) {
            note(when + "ahead " + i, x.ahead(i));
        }
        for (int n = 0; n < 75; n++) {
            note(when + "get " + n, x.get(n / 15, n / 3 % 5, n % 3));
        }
        for (int v = -1; v < 5; v++) {
            note(when + "found " + v, x.found(v));
        }
        for (int n = 0; n < foundNumbers; n++) {
            note(when + "found of " + n, x.foundOf(n / 15, n / 3 % 5, n % 3));
        }
        note(when + "found at all", x.count(6));
    }

    private void racksOf(LoweredPowers x) {
        for (int rack = 0; rack < 3; rack++) {
            for (int i = 0; i < 10; i++) {
                note("thing " + rack + " " + i, x.thing(rack, i));
            }
        }
        // which kind a row is of, and whether it has its last place, is told by what it refuses
        for (int n = 0; n < 9; n++) {
            note("store " + n, x.store(n / 3, 0, n % 3, 77));
        }
        note("racks", x.count(4));
    }

    private void listsOf(LoweredPowers x) {
        for (int list = 0; list < 3; list++) {
            for (int i = 0; i < 12; i++) {
                note("look " + list + " " + i, x.look(list, i));
            }
        }
        note("lists", x.count(5));
    }

    int size() {
        return answers.size();
    }

    /** The first thing that is otherwise in another portrait, leaving aside names that begin so; "": none. */
    String firstOtherwise(Portrait other, String aside) {
        for (int i = 0; i < answers.size(); i++) {
            boolean left = !aside.isEmpty() && names.get(i).startsWith(aside);
            if (!left && !answers.get(i).equals(other.answers.get(i))) {
                return names.get(i) + " is " + answers.get(i) + ", was " + other.answers.get(i);
            }
        }
        return "";
    }
}
