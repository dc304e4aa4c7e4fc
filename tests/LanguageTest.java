import java.lang.reflect.Constructor;
import java.lang.reflect.Field;
import java.lang.reflect.Method;
import java.lang.reflect.Modifier;
import java.nio.charset.StandardCharsets;
import java.nio.file.Files;
import java.nio.file.Path;
import java.util.ArrayList;
import java.util.List;
import java.util.Set;
import java.util.TreeSet;
import java.util.regex.Matcher;
import java.util.regex.Pattern;

/** What can be seen of LANGUAGE.md's rules from outside, and that a run takes little room. */
public final class LanguageTest {
    private static final String FACE = "plate/2 layer/2 set/3 told/2 feed/1 text/0 force/1 by/2 heapOf/2 fewest/1 "
        + "longest/1 several/1 orders/2 mean/2 bestOrder/2 came/1 less/1 rises/1 judge/1 stranger/1 lay/1 take/1 "
        + "on/2 drawn/2 image/0 back/0 count/1 sheet/3 cell/3 copy/5 plates/4 taken/2";
    private static int wrong = 0;

    public static void main(String[] args) throws Exception {
        face();
        nested();
        words(source());
        room();
        System.out.println(wrong == 0 ? "the language is kept to" : wrong + " things outside the language");
        if (wrong != 0) {
            System.exit(1);
        }
    }

    private static void must(boolean holds, String what) {
        if (!holds) {
            wrong++;
            System.out.println("not so: " + what);
        }
    }

    /** Rule 1. */
    private static void face() {
        Set<String> open = new TreeSet<>();
        Set<String> names = new TreeSet<>();
        for (Method m : GreaterPlates.class.getDeclaredMethods()) {
            if (Modifier.isPublic(m.getModifiers())) {
                open.add(m.getName() + "/" + m.getParameterCount());
                names.add(m.getName());
                Class<?> due = m.getName().equals("mean") ? long.class : int.class;
                must(m.getReturnType() == due, m.getName() + " answers " + due);
                for (Class<?> p : m.getParameterTypes()) {
                    must(p == int.class, m.getName() + " takes ints");
                }
            }
        }
        must(open.equals(new TreeSet<>(List.of(FACE.split(" ")))), "the face is the document's: " + open);
        List<Class<?>> all = new ArrayList<>(List.of(GreaterPlates.class.getDeclaredClasses()));
        all.add(GreaterPlates.class);
        for (Class<?> c : all) {
            for (Method m : c.getDeclaredMethods()) {
                boolean isFace = c == GreaterPlates.class && Modifier.isPublic(m.getModifiers());
                must(isFace || !names.contains(m.getName()), m + " bears the name of a public one");
                must(c != GreaterPlates.class || isFace || Modifier.isPrivate(m.getModifiers()), m + " is private");
                must(m.getParameterCount() <= 7, m + " has seven parameters at most");
            }
        }
        Set<String> constants = new TreeSet<>();
        for (Field f : GreaterPlates.class.getDeclaredFields()) {
            if (!Modifier.isPrivate(f.getModifiers())) {
                constants.add(f.getName());
            }
        }
        must(constants.equals(Set.of("NONE", "BAD", "STATE", "FULL", "NO")), "the constants: " + constants);
        must(GreaterPlates.NO == -4611686018427387904L, "NO");
        Constructor<?>[] made = GreaterPlates.class.getDeclaredConstructors();
        must(made.length == 1 && Modifier.isPublic(made[0].getModifiers()), "one public constructor");
        must(Modifier.isFinal(GreaterPlates.class.getModifiers()), "the class is final");
    }

    /** Rules 2, 5 and 11. */
    private static void nested() {
        Class<?>[] inside = GreaterPlates.class.getDeclaredClasses();
        must(inside.length + 1 <= 12, "some twelve classes");
        List<Class<?>> all = new ArrayList<>(List.of(inside));
        all.add(GreaterPlates.class);
        for (Class<?> c : all) {
            must(c == GreaterPlates.class || Modifier.isStatic(c.getModifiers()), c + " is static");
            int fields = 0;
            for (Field f : c.getDeclaredFields()) {
                boolean isStatic = Modifier.isStatic(f.getModifiers());
                must(!isStatic || Modifier.isFinal(f.getModifiers()), f + " is final");
                fields += isStatic ? 0 : 1;
            }
            must(fields <= 20, c + " has some twenty fields");
        }
    }

    private static String source() throws Exception {
        return new String(Files.readAllBytes(Path.of("src/main/java/GreaterPlates.java")), StandardCharsets.ISO_8859_1);
    }

    /** Rules 2, 4, 6 and 11, by the words of the source without its comments. */
    private static void words(String source) {
        String bare = source.replaceAll("(?s)/\\*.*?\\*/", "").replaceAll("//[^\\n]*", "");
        String[] none = {"throw", "throws", "try", "catch", "synchronized", "assert", "volatile", "native", "var",
            "equals", "hashCode", "toString", "Object", "Exception", "System\\.(?!arraycopy)", "Math\\.\\w*Exact",
            "package", "protected", "import(?! java\\.util\\.Arrays;)"};
        for (String word : none) {
            must(!Pattern.compile("\\b" + word + (word.endsWith(")") ? "" : "\\b")).matcher(bare).find(), "no " + word);
        }
        must(!bare.contains("->") && !bare.contains("::") && !bare.contains("@"), "no lambda, reference, annotation");
        must(source.chars().allMatch(c -> c == '\n' || c >= 32 && c < 127), "plain signs alone");
        Matcher library = Pattern.compile("\\b(Math|Integer|Long|Arrays|System)\\.(\\w+)").matcher(bare);
        Set<String> known = Set.of("Math.abs", "Math.max", "Math.min", "Integer.bitCount", "Arrays.copyOf", "Arrays.fill",
            "System.arraycopy");
        while (library.find()) {
            must(known.contains(library.group()), "known of the library: " + library.group());
        }
        int from = 0;
        String[] lines = source.split("\n");
        for (int i = 0; i < lines.length; i++) {
            if (lines[i].matches(" {4,8}(public|private|static|void|int|boolean|Rule|[A-Z]\\w*\\().*\\{")) {
                from = i;
            }
            boolean ends = lines[i].matches(" {4,8}\\}") && !lines[from].contains(" class ");
            must(!ends || i - from <= 60, "a method of sixty lines at most ends at line " + (i + 1));
        }
    }

    /** 512 of the dearest calls make nothing but the object and what it keeps. */
    private static void room() {
        com.sun.management.ThreadMXBean bean =
            (com.sun.management.ThreadMXBean) java.lang.management.ManagementFactory.getThreadMXBean();
        long self = Thread.currentThread().getId();
        bean.getThreadAllocatedBytes(self);
        dearRun();
        long before = bean.getThreadAllocatedBytes(self);
        dearRun();
        long bytes = bean.getThreadAllocatedBytes(self) - before;
        must(bytes < 20000, "a run of dear calls takes less than 20000 bytes, not " + bytes);
    }

    private static void dearRun() {
        GreaterPlates x = new GreaterPlates();
        for (int i = 0; i < 6; i++) {
            x.plate(i * 37 % 50, i);
        }
        x.layer(3, 0);
        x.sheet(0, 2, 6);
        for (int i = 0; i < 40; i++) {
            x.orders(0, 3);
            x.mean(0, 1);
            x.bestOrder(0, 3);
            x.came(0);
            x.less(0);
            x.less(1);
            x.fewest(1);
            x.several(3);
            x.stranger(0);
            x.sheet(1, 2, 40);
            x.image();
            x.back();
        }
    }
}
