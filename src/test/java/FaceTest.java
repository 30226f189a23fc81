import java.lang.reflect.Constructor;
import java.lang.reflect.Field;
import java.lang.reflect.Method;
import java.lang.reflect.Modifier;
import java.nio.file.Files;
import java.nio.file.Path;
import java.util.HashSet;
import java.util.Set;
import java.util.TreeSet;

/** The public face and the language that the class keeps to, and that no call makes objects. */
public final class FaceTest {
    private static final String[] METHODS = {
        "int set(int,int)", "int of(int)", "int degree()", "int put(int,int,int,int)", "int get(int,int,int)", "int clear()", "int order()",
        "int work(int,int)", "int right(int)", "int search(int,int,int)", "int found(int)", "int foundOf(int,int,int)", "int take()",
        "int roots()", "int root(int,int)", "int easy(int,int)", "int direct(int,int)", "int checked(int)", "int value(int)", "int slope(int)",
        "int steps(int,int)", "int cut(int)", "long valued(long)", "int narrowed(long)", "int plan(int,int)", "int unplan()", "int run()",
        "int ahead(int)", "int rack(int,int,int)", "int store(int,int,int,int)", "long thing(int,int)", "int copied(int,int)", "int feed(int)",
        "int wipe()", "int read()", "int written(int)", "int list(int,int)", "int lay(int,int,long)", "long look(int,int)", "int judge(int)",
        "int image()", "int undo()", "int count(int)"};
    private static final String[] CONSTANTS = {"int NONE", "int BAD", "int STATE", "int FULL", "int NOT", "int MISSING", "int CAST", "int PLACE",
        "int BELOW", "int FAR", "long VOID"};
    /** Words of Java that LANGUAGE.md leaves out, or that this class has no need of. */
    private static final String[] LEFT_OUT = {"Float", "Double", "float ", "double ", "catch", "throw", "finally", "->", "::", "Exact(", "StrictMath",
        "synchronized", "assert ", "System.out", "nanoTime", "Random", "ArrayList", "String ", "package "};

    private static final Checks CHECKS = new Checks("FaceTest");

    public static void main(String[] args) throws Exception {
        face();
        innerNames();
        words();
        room();
        CHECKS.end();
    }

    private static void face() {
        Set<String> due = new TreeSet<>(Set.of(METHODS));
        Set<String> seen = new TreeSet<>();
        for (Method m : LoweredPowers.class.getDeclaredMethods()) {
            if (!Modifier.isPrivate(m.getModifiers()) && !m.isSynthetic()) {
                seen.add(signature(m));
            }
        }
        CHECKS.holds("methods " + seen, seen.equals(due));
        Set<String> constants = new TreeSet<>();
        for (Field f : LoweredPowers.class.getDeclaredFields()) {
            if (!Modifier.isPrivate(f.getModifiers())) {
                CHECKS.due("modifiers of " + f, f.getModifiers(), Modifier.PUBLIC | Modifier.STATIC | Modifier.FINAL);
                constants.add(f.getType() + " " + f.getName());
            }
        }
        CHECKS.holds("constants " + constants, constants.equals(new TreeSet<>(Set.of(CONSTANTS))));
        Constructor<?>[] made = LoweredPowers.class.getDeclaredConstructors();
        CHECKS.due("constructors", made.length, 1);
        CHECKS.due("constructor", made[0].getModifiers(), Modifier.PUBLIC);
        CHECKS.due("class", LoweredPowers.class.getModifiers(), Modifier.PUBLIC | Modifier.FINAL);
    }

    private static String signature(Method m) {
        StringBuilder all = new StringBuilder(m.getReturnType() + " " + m.getName() + "(");
        for (int i = 0; i < m.getParameterCount(); i++) {
            all.append(i > 0 ? "," : "").append(m.getParameterTypes()[i]);
        }
        return all.append(")").toString();
    }

    private static void innerNames() {
        Set<String> names = new HashSet<>();
        for (String m : METHODS) {
            names.add(m.substring(m.indexOf(' ') + 1, m.indexOf('(')));
        }
        Class<?>[] inner = LoweredPowers.class.getDeclaredClasses();
        CHECKS.holds("twelve classes at most", inner.length <= 11);
        for (Class<?> c : inner) {
            CHECKS.holds(c + " is static", Modifier.isStatic(c.getModifiers()));
            int fields = 0;
            for (Field f : c.getDeclaredFields()) {
                fields += Modifier.isStatic(f.getModifiers()) ? 0 : 1;
                CHECKS.holds(f + " is no static state", !Modifier.isStatic(f.getModifiers()) || Modifier.isFinal(f.getModifiers()));
            }
            CHECKS.holds(c + " has few fields", fields <= 20);
            for (Method m : c.getDeclaredMethods()) {
                CHECKS.holds(m + " bears a name of its own", !names.contains(m.getName()));
                CHECKS.holds(m + " takes seven at most", m.getParameterCount() <= 7);
            }
        }
        for (Method m : LoweredPowers.class.getDeclaredMethods()) {
            CHECKS.holds(m + " bears a name of its own", !Modifier.isPrivate(m.getModifiers()) || !names.contains(m.getName()));
        }
    }

    private static void words() throws Exception {
        String code = Files.readString(Path.of("src/main/java/LoweredPowers.java"))
            .replaceAll("(?s)/\\*.*?\\*/", "").replaceAll("//[^\n]*", "");
        for (String word : LEFT_OUT) {
            CHECKS.holds("without " + word, !code.contains(word));
        }
        int constructors = 0;
        String[] lines = code.split("\n");
        for (String line : lines) {
            constructors += line.contains(" new ") && !line.trim().startsWith("private final") && !line.trim().startsWith("final") ? 1 : 0;
        }
        CHECKS.due("objects are made by LoweredPowers() and by fields alone", constructors, 11);
    }

    /** The room of a run is shared by all its calls: what calls make would add up. */
    private static void room() {
        com.sun.management.ThreadMXBean bean = (com.sun.management.ThreadMXBean) java.lang.management.ManagementFactory.getThreadMXBean();
        if (!bean.isThreadAllocatedMemorySupported()) {
            return;
        }
        LoweredPowers[] objects = new LoweredPowers[20];
        for (int n = 0; n < objects.length; n++) {
            objects[n] = new LoweredPowers();
            everyCall(objects[n]);
        }
        long before = bean.getCurrentThreadAllocatedBytes();
        for (LoweredPowers x : objects) {
            // with the first time some 460 calls of an object's 512
            for (int times = 1; times < 10; times++) {
                everyCall(x);
            }
        }
        long made = bean.getCurrentThreadAllocatedBytes() - before;
        CHECKS.holds("calls make nothing: " + made, made < 4000);
    }

    private static long everyCall(LoweredPowers x) {
        long all = x.set(3, 2) + x.of(1) + x.degree() + x.put(2, 1, 1, 4) + x.get(1, 1, 1) + x.order() + x.work(3, 3) + x.right(0);
        all += x.search(3, 2, 1) + x.found(0) + x.foundOf(1, 1, 1) + x.take() + x.roots() + x.root(0, 0) + x.easy(3, 1) + x.direct(2, 3);
        all += x.checked(2) + x.value(1069547520) + x.slope(1069547520) + x.steps(1069547520, 5) + x.cut(1069547520) + x.valued(4599676419421066581L);
        all += x.narrowed(4599676419421066581L) + x.plan(0, 1) + x.ahead(2) + x.run() + x.unplan() + x.rack(0, 2, 3) + x.store(0, 1, 2, 5);
        all += x.thing(0, 1) + x.copied(0, 1) + x.feed('x') + x.wipe() + x.feed('x') + x.read() + x.written(0) + x.list(0, 3) + x.lay(0, 0, 1);
        return all + x.look(0, 0) + x.judge(0) + x.image() + x.undo() + x.count(1) + x.clear();
    }
}
