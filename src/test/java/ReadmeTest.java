import java.lang.reflect.Method;
import java.nio.file.Files;
import java.nio.file.Path;
import java.util.List;
import java.util.regex.Matcher;
import java.util.regex.Pattern;

/** README.md's calls answer what stands behind them. */
public final class ReadmeTest {
    private static final Pattern CALL = Pattern.compile("p\\.(\\w+)\\((.*?)\\);\\s+// (-?\\d+).*");
    private static final Checks CHECKS = new Checks("ReadmeTest");

    public static void main(String[] args) throws Exception {
        LoweredPowers p = new LoweredPowers();
        for (String line : Files.readAllLines(Path.of("README.md"))) {
            Matcher call = CALL.matcher(line);
            if (call.matches()) {
                CHECKS.due(line, answer(p, call.group(1), call.group(2)), Long.parseLong(call.group(3)));
            } else {
                CHECKS.holds("is no call without an answer: " + line, !line.startsWith("p."));
            }
        }
        CHECKS.end();
    }

    private static long answer(LoweredPowers p, String name, String words) throws Exception {
        List<String> told = words.isEmpty() ? List.of() : List.of(words.split(", "));
        for (Method m : LoweredPowers.class.getMethods()) {
            if (m.getName().equals(name) && m.getParameterCount() == told.size()) {
                Object[] numbers = new Object[told.size()];
                for (int i = 0; i < numbers.length; i++) {
                    long number = number(told.get(i));
                    if (m.getParameterTypes()[i] == long.class) {
                        numbers[i] = number;
                    } else {
                        numbers[i] = (int) number;
                    }
                }
                return ((Number) m.invoke(p, numbers)).longValue();
            }
        }
        throw new IllegalArgumentException("no call " + name);
    }

    private static long number(String word) {
        return word.startsWith("'") ? word.charAt(1) : Long.decode(word);
    }
}
