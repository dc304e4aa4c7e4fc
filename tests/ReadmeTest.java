import java.lang.reflect.Method;
import java.nio.charset.StandardCharsets;
import java.nio.file.Files;
import java.nio.file.Path;
import java.util.HashMap;
import java.util.List;
import java.util.Map;
import java.util.Set;
import java.util.TreeSet;
import java.util.regex.Matcher;
import java.util.regex.Pattern;

/**
 * Every line of Java in README.md is carried out, all blocks on one object, and the answer behind it is asked for.
 * A line of another form than these is refused, so that none stands there unlooked at.
 */
public final class ReadmeTest {
    private static final Pattern MADE = Pattern.compile("GreaterPlates x = new GreaterPlates\\(\\);");
    private static final Pattern FED = Pattern.compile("for \\(char c : \"([^\"]*)\"\\.toCharArray\\(\\)\\) x\\.feed\\(c\\);");
    private static final Pattern CALL =
        Pattern.compile("(?:int (\\w+) = )?x\\.(\\w+)\\(([^)]*)\\); +// (-?\\d+)(?::.*)?");

    private static final Map<String, Method> face = new HashMap<>();
    private static final Map<String, Integer> names = new HashMap<>();
    private static final Set<String> shown = new TreeSet<>();
    private static GreaterPlates x = null;
    private static int calls = 0;
    private static int wrong = 0;

    public static void main(String[] args) throws Exception {
        for (Method m : GreaterPlates.class.getMethods()) {
            if (m.getDeclaringClass() == GreaterPlates.class) {
                face.put(m.getName(), m);
            }
        }
        boolean inJava = false;
        for (String line : Files.readAllLines(Path.of("README.md"), StandardCharsets.UTF_8)) {
            if (line.startsWith("```")) {
                inJava = line.equals("```java");
            } else if (inJava) {
                carryOut(line);
            }
        }
        Set<String> missing = new TreeSet<>(face.keySet());
        missing.removeAll(shown);
        if (!missing.isEmpty()) {
            fail("these calls do not stand in README.md: " + missing);
        }
        System.out.println(calls + " calls of README.md, " + wrong + " not as it says");
        if (wrong != 0) {
            System.exit(1);
        }
    }

    private static void fail(String what) {
        wrong++;
        System.out.println(what);
    }

    private static void carryOut(String line) throws Exception {
        Matcher fed = FED.matcher(line);
        Matcher call = CALL.matcher(line);
        if (MADE.matcher(line).matches()) {
            x = new GreaterPlates();
        } else if (fed.matches()) {
            shown.add("feed");
            for (char c : fed.group(1).toCharArray()) {
                x.feed(c);
            }
        } else if (call.matches() && face.containsKey(call.group(2))) {
            ask(call);
        } else {
            fail("a line that is no call: " + line);
        }
    }

    private static void ask(Matcher call) throws Exception {
        calls++;
        shown.add(call.group(2));
        List<String> words = call.group(3).isEmpty() ? List.of() : List.of(call.group(3).split(", "));
        Object[] numbers = new Object[words.size()];
        for (int i = 0; i < numbers.length; i++) {
            Integer named = names.get(words.get(i));
            numbers[i] = named != null ? named : Integer.valueOf(words.get(i));
        }
        long got = ((Number) face.get(call.group(2)).invoke(x, numbers)).longValue();
        if (got != Long.parseLong(call.group(4))) {
            fail(call.group() + " answered " + got);
        }
        if (call.group(1) != null) {
            names.put(call.group(1), (int) got);
        }
    }
}
