import java.nio.charset.StandardCharsets;
import java.nio.file.Files;
import java.nio.file.Path;
import java.util.Set;
import java.util.TreeSet;

/**
 * For each sentence of the document that names a boundary case (too small, too large, empty, full, a wrap-around,
 * a refused call) a test of its own: it bears the promise's number and the sentence's words as they stand in the
 * document. Where a call is refused, a twin object without that call must look just like it.
 */
public final class BoundariesTest {
    private static final int NONE = -1, BAD = -2, STATE = -3, FULL = -4;
    private static final int NOTHING = -11, OUTSIDE = -12, OTHER_SORT = -13, BELOW_ZERO = -14;
    private static final long NO = -4611686018427387904L;
    private static final int MIN = Integer.MIN_VALUE, MAX = Integer.MAX_VALUE;

    private static int wrong = 0;
    private static int answers = 0;
    private static int tests = 0;
    private static final Set<Integer> promises = new TreeSet<>();
    private static String now = "";
    private static String document = null;

    private interface Doing {
        void run();
    }

    private interface Scene {
        void build(GreaterPlates x);
    }

    private interface Call {
        long on(GreaterPlates x);
    }

    public static void main(String[] args) throws Exception {
        document = wordsOf(Path.of("../shared/DOC.md"));
        newObject();
        plate();
        layer();
        set();
        told();
        feed();
        textRoom();
        textTokens();
        textFaults();
        textOpen();
        textValues();
        force();
        by();
        mayLie();
        ranksAndLikes();
        heapOf();
        fewest();
        longest();
        several();
        orders();
        mean();
        bestOrder();
        came();
        less();
        rises();
        judge();
        stranger();
        lay();
        take();
        on();
        drawn();
        image();
        back();
        count();
        sheet();
        cell();
        copy();
        plates();
        taken();
        manyCalls();
        for (int promise = 1; promise <= 33; promise++) {
            must(promises.contains(promise), "promise " + promise + " has a test");
        }
        System.out.println(tests + " sentences, " + answers + " answers asked, " + wrong + " not as due");
        if (wrong != 0) {
            System.exit(1);
        }
    }

    // ---- how it is tested

    private static String wordsOf(Path file) throws Exception {
        if (!Files.exists(file)) {
            return null;
        }
        return new String(Files.readAllBytes(file), StandardCharsets.UTF_8).replaceAll("\\s+", " ");
    }

    /** The sentence is the document's own; what tells which of its cases is looked at. */
    private static void test(int promise, String sentence, String what, Doing doing) {
        tests++;
        promises.add(promise);
        now = "promise " + promise + ", \"" + sentence + "\", " + what;
        must(document == null || document.contains(sentence), "the sentence stands in the document");
        doing.run();
    }

    private static void must(boolean holds, String what) {
        if (!holds) {
            wrong++;
            System.out.println(now + ": not so: " + what);
        }
    }

    private static void due(String call, long got, long want) {
        answers++;
        if (got != want) {
            wrong++;
            System.out.println(now + ": " + call + " answered " + got + ", due is " + want);
        }
    }

    /** The call is refused, and behind it all is as in a twin on which it was never called. */
    private static void refused(Scene scene, String name, long want, Call call) {
        GreaterPlates called = new GreaterPlates();
        GreaterPlates twin = new GreaterPlates();
        scene.build(called);
        scene.build(twin);
        due(name, call.on(called), want);
        String seen = look(called);
        String whole = look(twin);
        answers++;
        if (!seen.equals(whole)) {
            wrong++;
            System.out.println(now + ": " + name + " changed something:\n  " + seen + "\n  is due as\n  " + whole);
        }
    }

    private static GreaterPlates with(int... sizes) {
        GreaterPlates x = new GreaterPlates();
        come(x, sizes);
        return x;
    }

    private static void come(GreaterPlates x, int... sizes) {
        for (int size : sizes) {
            x.plate(size, 0);
        }
    }

    private static void type(GreaterPlates x, String letters) {
        for (int i = 0; i < letters.length(); i++) {
            x.feed(letters.charAt(i));
        }
    }

    private static int read(GreaterPlates x, String text) {
        type(x, text);
        return x.text();
    }

    private static void rule(GreaterPlates x, String text) {
        int number = read(x, text);
        due("the rule " + text + " is a text", number >= 0 ? 1 : number, 1);
        x.force(number);
    }

    private static void fill(GreaterPlates x, int sheet, int sort, int... items) {
        x.sheet(sheet, sort, items.length);
        for (int i = 0; i < items.length; i++) {
            x.cell(sheet, i, items[i]);
        }
    }

    /** Something of everything: plates, layers, texts, a tape, heaps, an image, sheets of each sort and none. */
    private static void small(GreaterPlates x) {
        x.plate(7, 3);
        x.plate(2, 1);
        x.plate(8, 9);
        x.layer(0, 0);
        x.layer(5, 4);
        x.lay(0);
        x.image();
        x.lay(1);
        x.take(0);
        rule(x, "may size<top;pays size;weighs deep;");
        x.set(2, 0, 4);
        fill(x, 0, 0, 0, 1, 2);
        fill(x, 1, 1, 11, 12);
        fill(x, 2, 2, 13, 14);
        type(x, "may 1;pays 5;weighs 2");
    }

    /** Small, with eight plates, five layers and six texts; on the tape is a seventh. */
    private static void full(GreaterPlates x) {
        small(x);
        come(x, 3, 4, 5, 6, 9);
        for (int i = 2; i < 5; i++) {
            x.layer(i, i);
        }
        x.text();
        for (int i = 0; i < 4; i++) {
            read(x, "may 1;pays " + i + ";weighs 1;");
        }
        type(x, "may 1;pays 1;weighs 1;");
    }

    /** A tape of 160 bytes, which are a text. */
    private static void fullTape(GreaterPlates x) {
        come(x, 5, 6);
        type(x, " ".repeat(137) + "may 1;pays 1;weighs 7 ;");
    }

    /** All that can be asked; what is asked last changes the object, so it serves for nothing more. */
    private static String look(GreaterPlates x) {
        StringBuilder all = new StringBuilder();
        lookAtTable(x, all);
        for (int i = 0; i < x.count(1); i++) {
            all.append(" layer ").append(x.told(i, 3)).append(' ').append(x.told(i, 4));
            all.append(' ').append(x.by(i, 0)).append(' ').append(x.by(i, 1));
        }
        all.append(" fewest ").append(x.fewest(0)).append(' ').append(x.fewest(1)).append(' ').append(x.longest(3));
        for (int sheet = 0; sheet < 4; sheet++) {
            all.append(" sheet ").append(x.judge(sheet)).append(' ').append(x.stranger(sheet));
            for (int sort = 0; sort < 3; sort++) {
                all.append(' ').append(x.plates(sheet, sort, -1, 1));
            }
        }
        lookAtSheets(x, all);
        all.append(" tape ").append(x.feed('7')).append(' ').append(x.feed(';'));
        int text = x.text();
        all.append(' ').append(text).append(' ').append(x.force(text)).append(' ').append(x.told(0, 2));
        all.append(" image ").append(x.back());
        lookAtTable(x, all);
        return all.toString();
    }

    private static void lookAtTable(GreaterPlates x, StringBuilder all) {
        all.append(" counts");
        for (int what = 0; what < 8; what++) {
            all.append(' ').append(x.count(what));
        }
        for (int i = 0; i < x.count(0); i++) {
            all.append(" plate ").append(x.told(i, 0)).append(' ').append(x.told(i, 1)).append(' ').append(x.told(i, 2));
        }
        for (int heap = 0; heap < x.count(3); heap++) {
            all.append(" heap");
            for (int height = 0; x.on(heap, height) >= 0; height++) {
                all.append(' ').append(x.on(heap, height));
            }
        }
    }

    /** What stands in the sheets is seen by plates that come of it, as far as there is room for them. */
    private static void lookAtSheets(GreaterPlates x, StringBuilder all) {
        for (int sheet = 0; sheet < 4; sheet++) {
            for (int from = 0; from < 3; from += 2) {
                all.append(' ').append(x.plates(sheet, sheet, from, 1));
            }
            int last = x.count(0) - 1;
            all.append(' ').append(x.told(last, 0)).append(' ').append(x.told(last, 1));
            for (int i = 0; i < 5; i++) {
                all.append(' ').append(x.cell(sheet, i, 0));
            }
        }
    }

    // ---- promise 1

    private static void newObject() {
        test(1, "No PLATES, LAYERS, HEAPS.", "empty", () -> {
            GreaterPlates x = new GreaterPlates();
            due("count(0)", x.count(0), 0);
            due("count(1)", x.count(1), 0);
            due("count(3)", x.count(3), 0);
            due("told(0, 0)", x.told(0, 0), BAD);
            due("told(0, 3)", x.told(0, 3), BAD);
            due("take(0)", x.take(0), BAD);
            due("on(0, 0)", x.on(0, 0), BAD);
            due("lay(0)", x.lay(0), BAD);
        });
        test(1, "HIGHEST (1 .. 9; 9 at first)", "at first", () -> {
            GreaterPlates x = with(8, 7, 6, 5, 4, 3, 2, 1);
            due("count(4)", x.count(4), 9);
            due("all eight on one heap", x.fewest(0), 1);
            due("set(2, 0, 8) tells what was", x.set(2, 0, 8), 9);
        });
        test(1, "numbered from 0 as they were begun (none at first)", "HEAPS", () ->
            due("count(3)", new GreaterPlates().count(3), 0));
        test(1, "how many of the PLATES are LAID (the first ones; none at first)", "LAID", () -> {
            GreaterPlates x = with(8, 7);
            due("count(2)", x.count(2), 0);
            x.layer(0, 0);
            x.lay(0);
            due("count(2)", x.count(2), 1);
            due("the first one", x.on(0, 0), 0);
        });
        test(1, "or missing (as all are at first)", "SHEETS", () -> {
            GreaterPlates x = new GreaterPlates();
            for (int sheet = 0; sheet < 4; sheet++) {
                due("judge", x.judge(sheet), NOTHING);
                due("stranger", x.stranger(sheet), NOTHING);
                due("cell", x.cell(sheet, 0, 0), NOTHING);
                due("copy", x.copy(sheet, 0, sheet, 0, 0), NOTHING);
                due("plates", x.plates(sheet, 0, 0, 0), NOTHING);
            }
        });
        test(1, "TEXT 0, at first THE RULE, is: may size < top ; pays 1 - high ; weighs size ;", "at first", () -> {
            GreaterPlates x = with(50, 50, 49);
            x.layer(2, 0);
            due("count(5)", x.count(5), 1);
            due("count(7)", x.count(7), 0);
            due("a like one may not lie on it", x.heapOf(0, 1), 1);
            due("a lesser one may", x.heapOf(0, 2), 0);
            due("pays of two new ones", x.by(0, 1), 2);
            due("weighs", x.told(2, 2), 49);
        });
        test(1, "A TEXT is read from THE TAPE (160 bytes at most).", "empty at first", () -> {
            GreaterPlates x = new GreaterPlates();
            due("count(6)", x.count(6), 0);
            due("text()", x.text(), -100);
        });
        test(1, "STATE: there is none.", "no IMAGE at first", () -> due("back()", new GreaterPlates().back(), STATE));
        test(1, "`GreaterPlates()`", "objects share nothing", () -> {
            GreaterPlates x = new GreaterPlates();
            full(x);
            GreaterPlates fresh = new GreaterPlates();
            small(fresh);
            String seen = look(fresh);
            GreaterPlates alone = new GreaterPlates();
            small(alone);
            must(seen.equals(look(alone)), "a new object is as the first one was");
        });
    }

    // ---- plates, layers

    private static void plate() {
        String sentence = "A PLATE comes: its number. BAD; FULL.";
        test(2, sentence, "BAD: a SIZE too small", () -> {
            refused(BoundariesTest::small, "plate(-1, 5)", BAD, x -> x.plate(-1, 5));
            refused(BoundariesTest::small, "plate(MIN, 5)", BAD, x -> x.plate(MIN, 5));
        });
        test(2, sentence, "BAD: a SIZE too large", () -> {
            refused(BoundariesTest::small, "plate(100, 5)", BAD, x -> x.plate(100, 5));
            refused(BoundariesTest::small, "plate(MAX, 5)", BAD, x -> x.plate(MAX, 5));
        });
        test(2, sentence, "BAD: a DEPTH too small", () -> {
            refused(BoundariesTest::small, "plate(5, -1)", BAD, x -> x.plate(5, -1));
            refused(BoundariesTest::small, "plate(5, MIN)", BAD, x -> x.plate(5, MIN));
        });
        test(2, sentence, "BAD: a DEPTH too large", () -> {
            refused(BoundariesTest::small, "plate(5, 100)", BAD, x -> x.plate(5, 100));
            refused(BoundariesTest::small, "plate(5, MAX)", BAD, x -> x.plate(5, MAX));
        });
        test(2, "have a SIZE and a DEPTH (0 ..", "the least and the greatest", () -> {
            GreaterPlates x = new GreaterPlates();
            due("plate(0, 99)", x.plate(0, 99), 0);
            due("plate(99, 0)", x.plate(99, 0), 1);
            due("told(0, 0)", x.told(0, 0), 0);
            due("told(0, 1)", x.told(0, 1), 99);
            due("told(1, 0)", x.told(1, 0), 99);
            due("told(1, 1)", x.told(1, 1), 0);
        });
        test(2, "PLATES (8 at most, numbered from 0 as they come)", "the eighth", () -> {
            GreaterPlates x = new GreaterPlates();
            for (int i = 0; i < 8; i++) {
                due("plate", x.plate(i, 9), i);
            }
            due("count(0)", x.count(0), 8);
            due("told(7, 0)", x.told(7, 0), 7);
        });
        test(2, sentence, "FULL: a ninth", () -> refused(BoundariesTest::full, "plate(5, 5)", FULL, x -> x.plate(5, 5)));
        test(2, "Refusals, the first that the call's words name", "BAD ahead of FULL", () -> {
            refused(BoundariesTest::full, "plate(100, 5)", BAD, x -> x.plate(100, 5));
            refused(BoundariesTest::full, "plate(5, -1)", BAD, x -> x.plate(5, -1));
        });
    }

    private static void layer() {
        String sentence = "A LAYER: his number. BAD; FULL.";
        test(3, sentence, "BAD: a KIND too small", () -> {
            refused(BoundariesTest::small, "layer(-1, 5)", BAD, x -> x.layer(-1, 5));
            refused(BoundariesTest::small, "layer(MIN, 5)", BAD, x -> x.layer(MIN, 5));
        });
        test(3, sentence, "BAD: a KIND too large", () -> {
            refused(BoundariesTest::small, "layer(6, 5)", BAD, x -> x.layer(6, 5));
            refused(BoundariesTest::small, "layer(MAX, 5)", BAD, x -> x.layer(MAX, 5));
        });
        test(3, "a NUMBER (0 .. 9)", "too small", () -> {
            refused(BoundariesTest::small, "layer(0, -1)", BAD, x -> x.layer(0, -1));
            refused(BoundariesTest::small, "layer(0, MIN)", BAD, x -> x.layer(0, MIN));
        });
        test(3, "a NUMBER (0 .. 9)", "too large", () -> {
            refused(BoundariesTest::small, "layer(0, 10)", BAD, x -> x.layer(0, 10));
            refused(BoundariesTest::small, "layer(0, MAX)", BAD, x -> x.layer(0, MAX));
        });
        test(3, "a NUMBER (0 .. 9)", "the least and the greatest", () -> {
            GreaterPlates x = new GreaterPlates();
            due("layer(0, 0)", x.layer(0, 0), 0);
            due("layer(5, 9)", x.layer(5, 9), 1);
            due("told(0, 4)", x.told(0, 4), 0);
            due("told(1, 4)", x.told(1, 4), 9);
            due("told(0, 3)", x.told(0, 3), 0);
            due("told(1, 3)", x.told(1, 3), 5);
        });
        test(3, "LAYERS (5 at most, numbered from 0)", "the fifth", () -> {
            GreaterPlates x = new GreaterPlates();
            for (int i = 0; i < 5; i++) {
                due("layer", x.layer(i, 9), i);
            }
            due("count(1)", x.count(1), 5);
            due("told(4, 3)", x.told(4, 3), 4);
        });
        test(3, sentence, "FULL: a sixth", () -> refused(BoundariesTest::full, "layer(1, 1)", FULL, x -> x.layer(1, 1)));
        test(3, "Refusals, the first that the call's words name", "BAD ahead of FULL", () -> {
            refused(BoundariesTest::full, "layer(6, 1)", BAD, x -> x.layer(6, 1));
            refused(BoundariesTest::full, "layer(1, 10)", BAD, x -> x.layer(1, 10));
        });
    }

    private static void set() {
        String sentence = "SIZE (what 0), DEPTH (1) of a PLATE, HIGHEST (2; of does not matter) becomes v: what it was. BAD.";
        test(4, sentence, "BAD: what too small, too large", () -> {
            refused(BoundariesTest::small, "set(-1, 0, 5)", BAD, x -> x.set(-1, 0, 5));
            refused(BoundariesTest::small, "set(3, 0, 5)", BAD, x -> x.set(3, 0, 5));
            refused(BoundariesTest::small, "set(MIN, 0, 5)", BAD, x -> x.set(MIN, 0, 5));
            refused(BoundariesTest::small, "set(MAX, 0, 5)", BAD, x -> x.set(MAX, 0, 5));
        });
        test(4, sentence, "BAD: no such PLATE", () -> {
            for (int what = 0; what < 2; what++) {
                int w = what;
                refused(BoundariesTest::small, "set(" + w + ", -1, 5)", BAD, x -> x.set(w, -1, 5));
                refused(BoundariesTest::small, "set(" + w + ", 3, 5)", BAD, x -> x.set(w, 3, 5));
                refused(BoundariesTest::full, "set(" + w + ", 8, 5)", BAD, x -> x.set(w, 8, 5));
                refused(BoundariesTest::small, "set(" + w + ", MAX, 5)", BAD, x -> x.set(w, MAX, 5));
                refused(y -> { }, "set(" + w + ", 0, 5) without PLATES", BAD, x -> x.set(w, 0, 5));
            }
        });
        test(4, sentence, "BAD: v too small, too large for a SIZE, a DEPTH", () -> {
            for (int what = 0; what < 2; what++) {
                int w = what;
                refused(BoundariesTest::small, "set(" + w + ", 1, -1)", BAD, x -> x.set(w, 1, -1));
                refused(BoundariesTest::small, "set(" + w + ", 1, 100)", BAD, x -> x.set(w, 1, 100));
                refused(BoundariesTest::small, "set(" + w + ", 1, MIN)", BAD, x -> x.set(w, 1, MIN));
                refused(BoundariesTest::small, "set(" + w + ", 1, MAX)", BAD, x -> x.set(w, 1, MAX));
            }
        });
        test(4, sentence, "the least and the greatest", () -> {
            GreaterPlates x = with(5);
            for (int what = 0; what < 2; what++) {
                due("set to 99", x.set(what, 0, 99), what == 0 ? 5 : 0);
                due("told", x.told(0, what), 99);
                due("set to 0", x.set(what, 0, 0), 99);
                due("told", x.told(0, what), 0);
            }
        });
        test(4, "HIGHEST (1 .. 9; 9 at first)", "too small, too large", () -> {
            refused(BoundariesTest::small, "set(2, 0, 0)", BAD, x -> x.set(2, 0, 0));
            refused(BoundariesTest::small, "set(2, 0, -1)", BAD, x -> x.set(2, 0, -1));
            refused(BoundariesTest::small, "set(2, 0, 10)", BAD, x -> x.set(2, 0, 10));
            refused(BoundariesTest::small, "set(2, 0, MAX)", BAD, x -> x.set(2, 0, MAX));
        });
        test(4, "HIGHEST (1 .. 9; 9 at first)", "the least and the greatest", () -> {
            GreaterPlates x = new GreaterPlates();
            due("set(2, 0, 1)", x.set(2, 0, 1), 9);
            due("count(4)", x.count(4), 1);
            due("set(2, 0, 9)", x.set(2, 0, 9), 1);
            due("count(4)", x.count(4), 9);
        });
        test(4, "HIGHEST (2; of does not matter)", "of is none such", () -> {
            GreaterPlates x = new GreaterPlates();
            due("set(2, -1, 5)", x.set(2, -1, 5), 9);
            due("set(2, MIN, 6)", x.set(2, MIN, 6), 5);
            due("set(2, MAX, 7)", x.set(2, MAX, 7), 6);
            due("count(4)", x.count(4), 7);
        });
    }

    private static void told() {
        String sentence = "Of a PLATE: 0 SIZE, 1 DEPTH, 2 weighs; of a LAYER: 3 KIND, 4 NUMBER. BAD.";
        test(5, sentence, "BAD: what too small, too large", () -> {
            refused(BoundariesTest::small, "told(0, -1)", BAD, x -> x.told(0, -1));
            refused(BoundariesTest::small, "told(0, 5)", BAD, x -> x.told(0, 5));
            refused(BoundariesTest::small, "told(0, MIN)", BAD, x -> x.told(0, MIN));
            refused(BoundariesTest::small, "told(0, MAX)", BAD, x -> x.told(0, MAX));
        });
        test(5, sentence, "BAD: no such PLATE, though there be such a LAYER", () -> {
            GreaterPlates x = with(6);
            x.layer(1, 2);
            x.layer(3, 4);
            for (int what = 0; what < 3; what++) {
                due("told(1, " + what + ")", x.told(1, what), BAD);
                due("told(-1, " + what + ")", x.told(-1, what), BAD);
                due("told(MAX, " + what + ")", x.told(MAX, what), BAD);
            }
            due("told(1, 3)", x.told(1, 3), 3);
            due("told(1, 4)", x.told(1, 4), 4);
        });
        test(5, sentence, "BAD: no such LAYER, though there be such a PLATE", () -> {
            GreaterPlates x = with(6, 7);
            x.layer(1, 2);
            for (int what = 3; what < 5; what++) {
                due("told(1, " + what + ")", x.told(1, what), BAD);
                due("told(-1, " + what + ")", x.told(-1, what), BAD);
                due("told(MIN, " + what + ")", x.told(MIN, what), BAD);
            }
            due("told(1, 0)", x.told(1, 0), 7);
            due("told(1, 2)", x.told(1, 2), 7);
        });
        test(5, "what it weighs (0 .. 99, else the bound)", "below, at and above the bounds", () -> {
            GreaterPlates x = with(0, 1, 2);
            rule(x, "may 1;pays 1;weighs size-1;");
            due("-1", x.told(0, 2), 0);
            due("0", x.told(1, 2), 0);
            due("1", x.told(2, 2), 1);
            rule(x, "may 1;pays 1;weighs 98+size;");
            due("98", x.told(0, 2), 98);
            due("99", x.told(1, 2), 99);
            due("100", x.told(2, 2), 99);
            rule(x, "may 1;pays 1;weighs 8192*8192*32-size;");
            due("the least int", x.told(0, 2), 0);
            due("the greatest int, by wrapping", x.told(1, 2), 99);
        });
        test(5, "weighs: of a PLATE alone (top, under, high, heap 0)", "nothing but size and deep counts", () -> {
            GreaterPlates x = new GreaterPlates();
            x.plate(50, 40);
            x.plate(30, 20);
            x.layer(0, 0);
            x.lay(0);
            x.lay(0);
            rule(x, "may 1;pays 1;weighs size+top+under+high+heap;");
            due("told(1, 2)", x.told(1, 2), 30);
            rule(x, "may 1;pays 1;weighs deep+top+under+high+heap;");
            due("told(1, 2)", x.told(1, 2), 20);
        });
    }

    // ---- texts

    private static void feed() {
        String sentence = "A byte (0 .. 255) comes behind THE TAPE: how many it has. BAD; FULL.";
        test(6, sentence, "BAD: too small", () -> {
            refused(BoundariesTest::small, "feed(-1)", BAD, x -> x.feed(-1));
            refused(BoundariesTest::small, "feed(MIN)", BAD, x -> x.feed(MIN));
        });
        test(6, sentence, "BAD: too large", () -> {
            refused(BoundariesTest::small, "feed(256)", BAD, x -> x.feed(256));
            refused(BoundariesTest::small, "feed(MAX)", BAD, x -> x.feed(MAX));
            refused(BoundariesTest::small, "feed(256 + ';')", BAD, x -> x.feed(256 + ';'));
        });
        test(6, sentence, "the least and the greatest byte", () -> {
            GreaterPlates x = new GreaterPlates();
            due("feed(0)", x.feed(0), 1);
            due("feed(255)", x.feed(255), 2);
            due("count(6)", x.count(6), 2);
        });
        test(6, "A TEXT is read from THE TAPE (160 bytes at most).", "the 160th", () -> {
            GreaterPlates x = new GreaterPlates();
            type(x, " ".repeat(159));
            due("feed(32)", x.feed(32), 160);
            due("count(6)", x.count(6), 160);
        });
        test(6, sentence, "FULL: a 161st", () -> {
            refused(BoundariesTest::fullTape, "feed('1')", FULL, x -> x.feed('1'));
            GreaterPlates x = new GreaterPlates();
            fullTape(x);
            due("feed('1')", x.feed('1'), FULL);
            due("count(6)", x.count(6), 160);
            due("the text is as it was", x.text(), 1);
            due("feed behind it", x.feed(' '), 1);
        });
        test(6, "Refusals, the first that the call's words name", "BAD ahead of FULL", () -> {
            refused(BoundariesTest::fullTape, "feed(256)", BAD, x -> x.feed(256));
            refused(BoundariesTest::fullTape, "feed(-1)", BAD, x -> x.feed(-1));
        });
    }

    private static void textRoom() {
        test(7, "THE TAPE, which is empty then, is a TEXT: its number", "empty behind a TEXT", () -> {
            GreaterPlates x = new GreaterPlates();
            due("text()", read(x, "may 1;pays 1;weighs 1;"), 1);
            due("count(6)", x.count(6), 0);
            due("an empty tape is none", x.text(), -100);
            due("count(5)", x.count(5), 2);
            due("feed", x.feed('m'), 1);
        });
        test(7, "-100 less the place of its FAULT", "empty behind a FAULT, and no TEXT more", () -> {
            GreaterPlates x = with(5);
            due("text()", read(x, "may 1;pays 1;weighs 1"), -121);
            due("count(6)", x.count(6), 0);
            due("count(5)", x.count(5), 1);
            due("count(7)", x.count(7), 0);
            due("a text behind it", read(x, "may 1;pays 1;weighs 1;"), 1);
        });
        test(7, "There are 6 TEXTS at most, TEXT 0 with them.", "the sixth", () -> {
            GreaterPlates x = with(5);
            for (int i = 1; i < 6; i++) {
                due("text()", read(x, "may 1;pays 1;weighs " + i + ";"), i);
            }
            due("count(5)", x.count(5), 6);
            due("force(5)", x.force(5), 0);
            due("told(0, 2)", x.told(0, 2), 5);
        });
        test(7, "FULL: no TEXT more has room (THE TAPE stays).", "a seventh", () -> {
            Scene six = x -> {
                come(x, 5, 6);
                for (int i = 1; i < 6; i++) {
                    read(x, "may 1;pays 1;weighs " + i + ";");
                }
                type(x, "may 1;pays 1;weighs 6;");
            };
            refused(six, "text()", FULL, x -> x.text());
            GreaterPlates x = new GreaterPlates();
            six.build(x);
            due("text()", x.text(), FULL);
            due("count(6)", x.count(6), 22);
            due("feed goes on behind it", x.feed(' '), 23);
            due("text()", x.text(), FULL);
            due("count(5)", x.count(5), 6);
        });
        test(7, "FULL: no TEXT more has room (THE TAPE stays).", "whatever stands on THE TAPE", () -> {
            refused(BoundariesTest::full, "text() of a TEXT", FULL, x -> x.text());
            GreaterPlates x = new GreaterPlates();
            for (int i = 1; i < 6; i++) {
                read(x, "may 1;pays 1;weighs 1;");
            }
            due("text() of nothing", x.text(), FULL);
            type(x, "may $");
            due("text() of what is none", x.text(), FULL);
            due("count(6)", x.count(6), 5);
        });
        test(7, "A TEXT is read from THE TAPE (160 bytes at most).", "a TEXT of 160 bytes", () -> {
            GreaterPlates x = with(5);
            String text = "may " + "1+".repeat(67) + "1;pays 1;weighs 12;";
            due("bytes", text.length() <= 160 ? 1 : 0, 1);
            text = " ".repeat(160 - text.length()) + text;
            due("text()", read(x, text), 1);
            due("force(1)", x.force(1), 0);
            due("weighs", x.told(0, 2), 12);
            due("faults at the last place", read(x, " ".repeat(138) + "may 1;pays 1;weighs 1$"), -259);
            due("ends too early at 160", read(x, " ".repeat(139) + "may 1;pays 1;weighs 1"), -260);
        });
    }

    private static void fault(String text, int place) {
        GreaterPlates x = with(5);
        due("text() of '" + text.replace('\n', '/') + "'", read(x, text), -100 - place);
        due("count(6) behind '" + text + "'", x.count(6), 0);
        due("count(5) behind '" + text + "'", x.count(5), 1);
        due("count(7) behind '" + text + "'", x.count(7), 0);
    }

    private static void lawful(String text) {
        due("text() of '" + text.replace('\n', '/') + "'", read(new GreaterPlates(), text), 1);
    }

    /** What an E is, by weighs of a plate of size 5, depth 3. */
    private static void weighs(String e, int want) {
        GreaterPlates x = new GreaterPlates();
        x.plate(5, 3);
        rule(x, "may 0;pays 0;weighs " + e + ";");
        due(e, x.told(0, 2), want);
    }

    private static void textTokens() {
        test(7, "TOKENS, each as long as can be", "WORDS and NUMBERS side by side", () -> {
            fault("maysize<top;", 0);
            fault("may sizetop;", 4);
            fault("may notsize;", 4);
            fault("may 1 2;", 6);
            weighs("1or 0", 1);
            weighs("0or 0or 0", 0);
            weighs("not 0and 1", 1);
            lawful("may size<top;pays 1-high;weighs size;");
        });
        test(7, "NUMBERS (digits, 4 at most)", "four and five digits", () -> {
            weighs("9999-9900", 99);
            weighs("0007", 7);
            weighs("0000", 0);
            fault("may 10000;", 4);
            fault("may 00007;", 4);
            fault("may 1+123456789012;", 6);
        });
        test(7, "blanks (32, 10) may stand between", "these two and no other", () -> {
            lawful("\n may\n1 ;\n\npays 1;weighs 1;\n ");
            lawful("may(1);pays(1);weighs(1);");
            fault("may\t1;", 3);
            fault("may 1\r;", 5);
            fault("may 1;pays 1;weighs 1;\t", 22);
        });
        test(7, "WORDS (a .. z)", "the bytes just beside", () -> {
            fault("may `;", 4);
            fault("may {;", 4);
            fault("may Size;", 4);
            fault("may sizE;", 4);
            fault("may 1;pays 1;weighs a;", 20);
            fault("may 1;pays 1;weighs z;", 20);
            fault("may 1;pays 1;weighs sizez;", 20);
            fault("may 1;pays 1;weighs asize;", 20);
        });
        test(7, "NUMBERS (digits, 4 at most)", "the bytes just beside", () -> {
            fault("may /;", 4);
            fault("may :;", 4);
            fault("may 9:;", 5);
            weighs("0+9", 9);
        });
        test(7, "SIGNS ( ) ; + - * < =", "no other sign", () -> {
            String others = "!\"#$%&',./:>?@[\\]^_`{|}~";
            for (int i = 0; i < others.length(); i++) {
                fault("may 1" + others.charAt(i) + "1;", 5);
            }
            fault("may 1>1;", 5);
            fault("may 1<=1;", 6);
            fault("may 1==1;", 6);
        });
    }

    private static void textFaults() {
        test(7, "(the text's size, if it ends too early)", "behind each token", () -> {
            String text = "may ( 1 + - size ) * 2 < 3 or not 4 and 5 ; pays 6 ; weighs 7 ;";
            String[] tokens = text.split(" ");
            String begun = "";
            for (int i = 0; i < tokens.length; i++) {
                fault(begun, begun.length());
                begun = begun + " " + tokens[i];
                if (i + 1 < tokens.length) {
                    fault(begun, begun.length());
                }
            }
            lawful(begun);
        });
        test(7, "(the text's size, if it ends too early)", "an empty tape, and one of blanks", () -> {
            fault("", 0);
            fault(" ", 1);
            fault(" \n ", 3);
            fault("may 1;pays 1;weighs 1   ", 24);
        });
        test(7, "the place of the first byte of the first TOKEN that can't stand there", "of each kind", () -> {
            fault("size;", 0);
            fault("pays 1;", 0);
            fault("  weighs", 2);
            fault("may ;", 4);
            fault("may may;", 4);
            fault("may 1 pays 1;", 6);
            fault("may 1;may 1;", 6);
            fault("may 1;weighs 1;", 6);
            fault("may 1;pays 1;pays 1;", 13);
            fault("may 1;pays ;weighs 1;", 11);
            fault("may 1;pays 1;weighs ;", 20);
            fault("may +1;", 4);
            fault("may *1;", 4);
            fault("may <1;", 4);
            fault("may );", 4);
            fault("may ();", 5);
            fault("may (1;", 6);
            fault("may (1));", 7);
            fault("may 1 not 1;", 6);
            fault("may 1+not 1;", 6);
            fault("may 1<not 1;", 6);
            fault("may 1 and ;", 10);
            fault("may 1 or and 1;", 9);
            fault("may 1 size;", 6);
            fault("may size(1);", 8);
            fault("may (1)(1);", 7);
        });
        test(7, "NOT: not NOT, or SUM, perhaps < or = and a SUM.", "a second comparison", () -> {
            fault("may 1<2<3;", 7);
            fault("may 1=2=3;", 7);
            fault("may 1<2=3;", 7);
            lawful("may (1<2)<3 and 1<2;pays 1;weighs 1;");
        });
        test(7, "TEXT: may E ; pays E ; weighs E ;", "something behind the last", () -> {
            fault("may 1;pays 1;weighs 1;;", 22);
            fault("may 1;pays 1;weighs 1; may", 23);
            fault("may 1;pays 1;weighs 1; 1", 23);
            lawful("may 1;pays 1;weighs 1; \n");
        });
        test(7, "also of a byte that begins none", "every one of them", () -> {
            for (int b = 0; b < 256; b++) {
                boolean begins = "\n ();+-*<=".indexOf(b) >= 0 || b >= '0' && b <= '9' || b >= 'a' && b <= 'z';
                if (!begins) {
                    GreaterPlates x = new GreaterPlates();
                    type(x, "may ");
                    due("feed(" + b + ")", x.feed(b), 5);
                    due("text() of the byte " + b, x.text(), -104);
                    due("count(6)", x.count(6), 0);
                }
            }
        });
        test(7, "a WORD that is neither KEY nor NAME", "nearly one", () -> {
            String[] words = {"siz", "sizes", "to", "tops", "dee", "deeps", "depth", "unde", "unders", "hig", "highs",
                "hea", "heaps", "a", "o", "no", "an", "ors", "ands", "nots"};
            for (String word : words) {
                fault("may 1;pays 1;weighs 1+" + word + ";", 22);
            }
            String[] first = {"tize", "pop", "weep", "ander", "nigh", "leap", "heat", "tot"};
            for (String word : first) {
                fault("may 1;pays 1;weighs " + word + ";", 20);
            }
            fault("may 1 ar 1;", 6);
            fault("may 1 end 1;", 6);
            fault("may hot 1;", 4);
            fault("pay 1;", 0);
            fault("may 1;days 1;", 6);
            fault("may 1;pays 1;reighs 1;", 13);
            fault("ma 1;", 0);
            fault("mays 1;", 0);
            fault("may 1;pay 1;", 6);
            fault("may 1;payss 1;", 6);
            fault("may 1;pays 1;weigh 1;", 13);
            fault("may 1;pays 1;weighss 1;", 13);
        });
        test(7, "may, pays, weighs, or, and, not are KEYS", "a KEY is no NAME", () -> {
            for (String key : new String[] {"may", "pays", "weighs", "or", "and"}) {
                fault("may " + key + ";", 4);
                fault("may 1+" + key + ";", 6);
            }
            fault("may 1+not;", 6);
            for (String key : new String[] {"may", "pays", "weighs", "not"}) {
                fault("may 1 " + key + " 1;pays 1;weighs 1;", 6);
            }
            for (String key : new String[] {"may", "pays", "or", "and", "not", "size"}) {
                fault("may 1;pays 1;" + key + " 1;", 13);
            }
        });
        test(7, "a NUMBER that is too long", "ahead of and behind other faults", () -> {
            fault("may 12345 $", 4);
            fault("may $ 12345", 4);
            fault("12345", 0);
            fault("may 1;pays 1;weighs 1;12345", 22);
        });
    }

    private static void textOpen() {
        String sentence = "a ( , a not, a - ahead of a ONE while 5 of these are open";
        test(7, sentence, "five ( , and a sixth", () -> {
            weighs("(((((7)))))", 7);
            fault("may ((((((7))))));", 9);
            fault("may ((((((", 9);
        });
        test(7, sentence, "five not, and a sixth", () -> {
            weighs("not not not not not 7", 0);
            fault("may not not not not not not 7;", 24);
        });
        test(7, sentence, "five - , and a sixth", () -> {
            weighs("9+-----7", 2);
            fault("may ------7;", 9);
        });
        test(7, sentence, "all three among one another", () -> {
            weighs("not(-(not 7))", 1);
            weighs("not(-(-7)) or 1", 1);
            fault("may not(-(-(7)));", 11);
            fault("may not(-(not(7)));", 13);
            fault("may not(-((-7)));", 11);
            fault("may (not(-(not 7)));", 11);
            fault("may (not(-(-7)));", 11);
        });
        test(7, "(a ( till its ) , not and - till what they belong to ends)", "what has ended is not open", () -> {
            weighs("(1)+(1)+(1)+(1)+(1)+(1)+(1)", 7);
            weighs("(((((1)))))+(((((1)))))+(((((1)))))", 3);
            weighs("9+-1+-1+-1+-1+-1+-1", 3);
            weighs("-----1*-----1*-----9*-1", 9);
            weighs("not 1 or not 1 or not 1 or not 1 or not 1 or not 1 or not 0", 1);
            weighs("not not not not not 0 and not not not not not 0", 1);
            weighs("(((((1)-1)-1)-1)+9)", 7);
            weighs("((((-1+1)))+(((7))))", 7);
        });
        test(7, "(a ( till its ) , not and - till what they belong to ends)", "what has not ended is open", () -> {
            fault("may not not not not not 1+(1);", 26);
            fault("may not not not not not 1<-1;", 26);
            fault("may not not not not not 1*2+-1;", 28);
            fault("may (((((1 or not 1)))));", 14);
            fault("may (((((1+-1)))));", 11);
            fault("may (((((1*(1))))));", 11);
            fault("may (((((1<-1)))));", 11);
        });
        test(7, sentence, "a - between two is none of these", () -> {
            weighs("(((((9-1-1)))))", 7);
            weighs("9-1-1-1-1-1-1-1", 2);
            weighs("not not not not not 5-5", 1);
        });
        test(7, sentence, "each part begins with none open", () -> {
            lawful("may (((((1)))));pays (((((1)))));weighs (((((1)))));");
            lawful("may -----1;pays -----1;weighs -----1;");
            fault("may (((((1)))));pays ((((((1))))));weighs 1;", 26);
            fault("may 1;pays 1;weighs ------1;", 25);
        });
    }

    private static void textValues() {
        test(7, "An E is an int (32 bits, wrapping)", "sums, products, the other sign", () -> {
            weighs("8192*8192*64+7", 7);
            weighs("8192*8192*32<0", 1);
            weighs("8192*8192*32-1<0", 0);
            weighs("8192*8192*32=-(8192*8192*32)", 1);
            weighs("-(8192*8192*32)-1=8192*8192*32-1", 1);
            weighs("8192*8192*31+8192*8192<0", 1);
            weighs("not 8192*8192*64", 1);
            weighs("8192*8192*64 or 0", 0);
            weighs("8192*8192*64 and 1", 0);
            weighs("9999*9999*9999*9999*9999", bounded(9999 * 9999 * 9999 * 9999 * 9999));
            weighs("9999*9999*43+size", bounded(9999 * 9999 * 43 + 5));
        });
        test(7, "of or, and, not, <, = 1 or 0 (what is not 0 is true)", "true ones that are not 1", () -> {
            weighs("7 or 0", 1);
            weighs("-7 or 0", 1);
            weighs("7 and 9", 1);
            weighs("2 and 1", 1);
            weighs("not 7", 0);
            weighs("not -7", 0);
            weighs("not 0", 1);
            weighs("4<5", 1);
            weighs("5<5", 0);
            weighs("6<5", 0);
            weighs("-1<0", 1);
            weighs("5=5", 1);
            weighs("5=-5", 0);
            weighs("(7 or 0)+(7 and 9)+(not 0)", 3);
        });
    }

    private static int bounded(int v) {
        return Math.max(0, Math.min(99, v));
    }

    private static void force() {
        String sentence = "A TEXT is THE RULE: which was. BAD.";
        test(8, sentence, "BAD: no such TEXT", () -> {
            refused(BoundariesTest::small, "force(-1)", BAD, x -> x.force(-1));
            refused(BoundariesTest::small, "force(2)", BAD, x -> x.force(2));
            refused(BoundariesTest::small, "force(MIN)", BAD, x -> x.force(MIN));
            refused(BoundariesTest::small, "force(MAX)", BAD, x -> x.force(MAX));
            refused(BoundariesTest::full, "force(6)", BAD, x -> x.force(6));
        });
        test(8, sentence, "a TEXT with a FAULT is none", () -> {
            GreaterPlates x = with(5);
            due("text()", read(x, "may 1;pays 1;weighs 1"), -121);
            due("force(1)", x.force(1), BAD);
            due("count(7)", x.count(7), 0);
        });
        test(8, sentence, "the first, the last, the same", () -> {
            GreaterPlates x = with(5);
            for (int i = 1; i < 6; i++) {
                read(x, "may 1;pays 1;weighs " + (10 + i) + ";");
            }
            due("force(5)", x.force(5), 0);
            due("force(5)", x.force(5), 5);
            due("told(0, 2)", x.told(0, 2), 15);
            due("force(0)", x.force(0), 5);
            due("told(0, 2)", x.told(0, 2), 5);
            due("count(7)", x.count(7), 0);
        });
    }

    // ---- laying

    private static void by() {
        String sentence = "BY a LAYER: how many HEAPS (what 0), pays of all (1). BAD.";
        test(9, sentence, "BAD: no such LAYER", () -> {
            for (int what = 0; what < 2; what++) {
                int w = what;
                refused(BoundariesTest::small, "by(-1, " + w + ")", BAD, x -> x.by(-1, w));
                refused(BoundariesTest::small, "by(2, " + w + ")", BAD, x -> x.by(2, w));
                refused(BoundariesTest::full, "by(5, " + w + ")", BAD, x -> x.by(5, w));
                refused(BoundariesTest::small, "by(MAX, " + w + ")", BAD, x -> x.by(MAX, w));
                refused(y -> { }, "by(0, " + w + ") without LAYERS", BAD, x -> x.by(0, w));
            }
        });
        test(9, sentence, "BAD: what too small, too large", () -> {
            refused(BoundariesTest::small, "by(0, -1)", BAD, x -> x.by(0, -1));
            refused(BoundariesTest::small, "by(0, 2)", BAD, x -> x.by(0, 2));
            refused(BoundariesTest::small, "by(0, MIN)", BAD, x -> x.by(0, MIN));
            refused(BoundariesTest::small, "by(0, MAX)", BAD, x -> x.by(0, MAX));
        });
        test(9, "all PLATES as they come, no HEAPS being there at first", "THE TABLE does not matter", () -> {
            GreaterPlates x = with(50, 40, 60);
            x.layer(0, 0);
            due("by(0, 0)", x.by(0, 0), 2);
            x.lay(0);
            x.lay(0);
            x.take(0);
            x.take(0);
            due("by(0, 0)", x.by(0, 0), 2);
            due("by(0, 1)", x.by(0, 1), 2);
            due("count(3) stays", x.count(3), 1);
            due("count(2) stays", x.count(2), 2);
        });
        test(9, "all PLATES as they come, no HEAPS being there at first", "without PLATES", () -> {
            GreaterPlates x = new GreaterPlates();
            for (int kind = 0; kind < 5; kind++) {
                x.layer(kind, 9);
                due("by(" + kind + ", 0)", x.by(kind, 0), 0);
                due("by(" + kind + ", 1)", x.by(kind, 1), 0);
            }
        });
        test(9, "what it costs to lay it there (0 .. 99, else the bound; of a new heap: top, under, high 0)", "bounds", () -> {
            GreaterPlates x = with(0, 1, 2);
            x.layer(0, 0);
            rule(x, "may 0;pays size-1;weighs 1;");
            due("0 and 0 and 1", x.by(0, 1), 1);
            rule(x, "may 0;pays 98+size;weighs 1;");
            due("98 and 99 and 99", x.by(0, 1), 296);
            rule(x, "may 0;pays 8192*8192*32-size;weighs 1;");
            due("0 and, by wrapping, 99 and 99", x.by(0, 1), 198);
        });
        test(9, "what it costs to lay it there (0 .. 99, else the bound; of a new heap: top, under, high 0)", "new", () -> {
            GreaterPlates x = new GreaterPlates();
            x.plate(30, 20);
            x.plate(40, 10);
            x.layer(0, 0);
            rule(x, "may 0;pays 10+top+under+high;weighs 1;");
            due("two new ones", x.by(0, 1), 20);
            rule(x, "may 1;pays top+under+high;weighs 1;");
            due("a new one, and one on it", x.by(0, 1), 0 + 30 + 20 + 1);
            rule(x, "may 0;pays 10*heap+size;weighs 1;");
            due("a new heap has its number", x.by(0, 1), 30 + 10 + 40);
        });
        test(9, "pays of all", "eight at the bound", () -> {
            GreaterPlates x = with(1, 2, 3, 4, 5, 6, 7, 8);
            x.layer(0, 0);
            rule(x, "may 0;pays 9999;weighs 1;");
            due("by(0, 1)", x.by(0, 1), 8 * 99);
            due("by(0, 0)", x.by(0, 0), 8);
        });
    }

    private static void mayLie() {
        test(9, "A PLATE MAY lie on a heap, if fewer than HIGHEST are on it, and may tells it.", "one fewer, as many", () -> {
            GreaterPlates x = with(8, 7, 6, 5, 4, 3, 2, 1);
            x.layer(0, 0);
            int[] heaps = {0, 8, 4, 3, 2, 2, 2, 2, 1, 1};
            for (int highest = 1; highest <= 9; highest++) {
                x.set(2, 0, highest);
                due("heaps of " + highest, x.by(0, 0), heaps[highest]);
                due("the last that lies on heap 0", x.heapOf(0, Math.min(highest, 8) - 1), 0);
                if (highest < 8) {
                    due("the first that does not", x.heapOf(0, highest), 1);
                }
            }
        });
        test(9, "may: whether it may lie on it besides (not 0).", "below 0, above 1, wrapped to 0", () -> {
            String[] e = {"0", "1", "-1", "9999", "8192*8192*64", "8192*8192*32"};
            int[] heaps = {2, 1, 1, 1, 2, 1};
            for (int i = 0; i < e.length; i++) {
                GreaterPlates x = with(5, 6);
                x.layer(0, 0);
                rule(x, "may " + e[i] + ";pays 1;weighs 1;");
                due("heaps by may " + e[i], x.by(0, 0), heaps[i]);
                due("fewest by may " + e[i], x.fewest(0), heaps[i]);
            }
        });
        test(9, "of HEAPS on which it MAY lie on the one of least RANK (of like ones the least number)", "like ones", () -> {
            GreaterPlates x = with(50, 50, 50, 20);
            for (int kind = 0; kind < 4; kind++) {
                x.layer(kind, 0);
                due("heapOf(" + kind + ", 3)", x.heapOf(kind, 3), 0);
            }
            rule(x, "may heap and size<top;pays 1;weighs 1;");
            for (int kind = 0; kind < 4; kind++) {
                due("heap 0 bears none: heapOf(" + kind + ", 3)", x.heapOf(kind, 3), 1);
            }
        });
        test(9, "on a new one, if there is none, or he LIKES to.", "there is none", () -> {
            GreaterPlates x = with(1, 2, 3, 4, 5, 6, 7, 8);
            for (int kind = 0; kind < 5; kind++) {
                x.layer(kind == 0 ? 5 : kind, 0);
                due("each begins one, kind " + kind, x.by(kind, 0), 8);
                due("the last one's", x.heapOf(kind, 7), 7);
            }
        });
    }

    /** How many heaps one makes of two plates of these sizes. */
    private static int heapsOfTwo(int kind, int number, int first, int second) {
        GreaterPlates x = with(first, second);
        x.layer(kind, number);
        return x.by(0, 0);
    }

    private static void ranksAndLikes() {
        test(9, "NEAR: if r is above 50", "50, 51", () -> {
            due("60 apart 10: 50", heapsOfTwo(1, 0, 60, 10), 1);
            due("61 apart 10: 51", heapsOfTwo(1, 0, 61, 10), 2);
            due("and NUMBER 1: 51", heapsOfTwo(1, 1, 60, 10), 2);
            due("41 and NUMBER 9: 50", heapsOfTwo(1, 9, 51, 10), 1);
            due("42 and NUMBER 9: 51", heapsOfTwo(1, 9, 52, 10), 2);
            due("99 apart 0", heapsOfTwo(1, 9, 99, 0), 2);
        });
        test(9, "HIGH as a NEAR", "50, 51 with 10 times m", () -> {
            due("40 and 10: 50", heapsOfTwo(3, 0, 50, 10), 1);
            due("41 and 10: 51", heapsOfTwo(3, 0, 51, 10), 2);
            due("31, NUMBER 9 and 10: 50", heapsOfTwo(3, 9, 41, 10), 1);
            due("32, NUMBER 9 and 10: 51", heapsOfTwo(3, 9, 42, 10), 2);
        });
        test(9, "HIGH: a NEAR's, and 10 times m", "m counts all on it", () -> {
            GreaterPlates x = with(50, 40, 39, 38, 37);
            x.layer(3, 0);
            due("1 and 40: 41", x.by(0, 0), 1);
            x.set(0, 4, 28);
            due("10 and 40: 50", x.by(0, 0), 1);
            x.set(0, 4, 27);
            due("11 and 40: 51", x.by(0, 0), 2);
        });
        test(9, "SULKY: if a NEAR would, or m is 1", "one heap, two heaps", () -> {
            due("with one heap, though 100 less 89 is not above 50", heapsOfTwo(5, 0, 99, 10), 2);
            due("with one heap, 100 less 1", heapsOfTwo(5, 0, 60, 59), 2);
            GreaterPlates x = with(98, 99, 10);
            x.layer(5, 0);
            due("100 less 89 is not above 50", x.heapOf(0, 2), 1);
            x.set(0, 2, 49);
            due("100 less 50 is not above 50", x.heapOf(0, 2), 1);
            x.set(0, 2, 50);
            due("100 less 49 is above 50", x.heapOf(0, 2), 2);
        });
        test(9, "SULKY: 100 less a NEAR's", "below 0", () -> {
            GreaterPlates x = with(98, 99, 0);
            x.layer(5, 9);
            due("100 less 107, less 108", x.heapOf(0, 2), 1);
        });
        test(9, "TOLD: if m is below NUMBER modulo 3", "no heap more, one, two", () -> {
            int[] heaps = {1, 1, 2, 1, 1, 2, 1, 1, 2, 1};
            for (int number = 0; number <= 9; number++) {
                GreaterPlates x = with(50, 40, 30, 20);
                x.layer(4, number);
                due("a TOLD of " + number, x.by(0, 0), heaps[number]);
            }
        });
        test(9, "TOLD: (a FREE's and NUMBER) modulo 4", "it begins again at 0", () -> {
            int[] firsts = {0, 3, 2, 1, 0, 3, 2, 1, 0, 3};
            for (int number = 0; number <= 9; number++) {
                GreaterPlates x = with(50, 51, 52, 53, 54, 55, 20);
                x.layer(4, number);
                due("a TOLD of " + number, x.heapOf(0, 6), firsts[number]);
            }
        });
        test(9, "LAYER: no; NEAR: if r is above 50; FREE as a LAYER", "never", () -> {
            due("a LAYER", heapsOfTwo(0, 9, 99, 0), 1);
            due("a FREE", heapsOfTwo(2, 9, 99, 0), 1);
        });
    }

    private static void heapOf() {
        String sentence = "BY a LAYER: the heap of a PLATE. BAD.";
        test(10, sentence, "BAD: no such LAYER", () -> {
            refused(BoundariesTest::small, "heapOf(-1, 0)", BAD, x -> x.heapOf(-1, 0));
            refused(BoundariesTest::small, "heapOf(2, 0)", BAD, x -> x.heapOf(2, 0));
            refused(BoundariesTest::full, "heapOf(5, 0)", BAD, x -> x.heapOf(5, 0));
            refused(BoundariesTest::small, "heapOf(MIN, 0)", BAD, x -> x.heapOf(MIN, 0));
        });
        test(10, sentence, "BAD: no such PLATE", () -> {
            refused(BoundariesTest::small, "heapOf(0, -1)", BAD, x -> x.heapOf(0, -1));
            refused(BoundariesTest::small, "heapOf(0, 3)", BAD, x -> x.heapOf(0, 3));
            refused(BoundariesTest::full, "heapOf(0, 8)", BAD, x -> x.heapOf(0, 8));
            refused(BoundariesTest::small, "heapOf(0, MAX)", BAD, x -> x.heapOf(0, MAX));
            refused(y -> y.layer(0, 0), "heapOf(0, 0) without PLATES", BAD, x -> x.heapOf(0, 0));
        });
        test(10, sentence, "the first and the last", () -> {
            GreaterPlates x = with(1, 2, 3, 4, 5, 6, 7, 8);
            x.layer(0, 0);
            due("heapOf(0, 0)", x.heapOf(0, 0), 0);
            due("heapOf(0, 7)", x.heapOf(0, 7), 7);
        });
    }

    private static void fewest() {
        String sentence = "FEWEST (what 0), CHEAPEST (1). BAD.";
        test(11, sentence, "BAD: what too small, too large", () -> {
            refused(BoundariesTest::small, "fewest(-1)", BAD, x -> x.fewest(-1));
            refused(BoundariesTest::small, "fewest(2)", BAD, x -> x.fewest(2));
            refused(BoundariesTest::small, "fewest(MIN)", BAD, x -> x.fewest(MIN));
            refused(BoundariesTest::small, "fewest(MAX)", BAD, x -> x.fewest(MAX));
        });
        test(11, "the least number of HEAPS of all lawful ways to lay all PLATES as they come", "none, one, eight", () -> {
            due("without PLATES", new GreaterPlates().fewest(0), 0);
            due("one", with(5).fewest(0), 1);
            due("eight on one", with(8, 7, 6, 5, 4, 3, 2, 1).fewest(0), 1);
            due("eight apart", with(1, 2, 3, 4, 5, 6, 7, 8).fewest(0), 8);
        });
        test(11, "CHEAPEST: the least pays of all of them.", "none, the bounds", () -> {
            due("without PLATES", new GreaterPlates().fewest(1), 0);
            GreaterPlates x = with(1, 2, 3, 4, 5, 6, 7, 8);
            rule(x, "may 0;pays 9999;weighs 1;");
            due("eight at the greatest", x.fewest(1), 8 * 99);
            rule(x, "may 1;pays -5;weighs 1;");
            due("none costs below 0", x.fewest(1), 0);
        });
    }

    private static void longest() {
        String sentence = "how many PLATES (what 0), how many such ROWS (1), PLATES in all of them (2), the least ROW (3). BAD.";
        test(12, sentence, "BAD: what too small, too large", () -> {
            refused(BoundariesTest::small, "longest(-1)", BAD, x -> x.longest(-1));
            refused(BoundariesTest::small, "longest(4)", BAD, x -> x.longest(4));
            refused(BoundariesTest::small, "longest(MIN)", BAD, x -> x.longest(MIN));
            refused(BoundariesTest::small, "longest(MAX)", BAD, x -> x.longest(MAX));
        });
        test(12, "(0 of each without PLATES.)", "empty", () -> {
            for (int what = 0; what < 4; what++) {
                due("longest(" + what + ")", new GreaterPlates().longest(what), 0);
            }
        });
        test(12, "PLATES by numbers (at least one)", "one alone", () -> {
            GreaterPlates x = with(5);
            for (int what = 0; what < 4; what++) {
                due("longest(" + what + ")", x.longest(what), 1);
            }
            GreaterPlates y = with(8, 7, 6, 5, 4, 3, 2, 1);
            int[] want = {1, 8, 0, 1};
            for (int what = 0; what < 4; what++) {
                due("each could lie on each ahead, longest(" + what + ")", y.longest(what), want[what]);
            }
        });
        test(12, sentence, "all eight", () -> {
            GreaterPlates x = with(1, 2, 3, 4, 5, 6, 7, 8);
            int[] want = {8, 1, 255, 255};
            for (int what = 0; what < 4; what++) {
                due("longest(" + what + ")", x.longest(what), want[what]);
            }
        });
        test(12, "by may alone, could lie on the one just ahead of it in the ROW, if that were the only one on heap 0",
            "HIGHEST is not asked, high is 1, heap is 0", () -> {
                GreaterPlates x = with(5, 4, 3);
                x.set(2, 0, 1);
                due("longest(0)", x.longest(0), 1);
                rule(x, "may high=1 and heap=0;pays 1;weighs 1;");
                due("longest(0)", x.longest(0), 1);
                rule(x, "may not high=1 or heap;pays 1;weighs 1;");
                due("longest(0)", x.longest(0), 3);
            });
    }

    private static void several() {
        test(13, "SEVERAL. BAD.", "k too small, too large", () -> {
            refused(BoundariesTest::small, "several(0)", BAD, x -> x.several(0));
            refused(BoundariesTest::small, "several(-1)", BAD, x -> x.several(-1));
            refused(BoundariesTest::small, "several(4)", BAD, x -> x.several(4));
            refused(BoundariesTest::small, "several(MIN)", BAD, x -> x.several(MIN));
            refused(BoundariesTest::small, "several(MAX)", BAD, x -> x.several(MAX));
        });
        test(13, "the most PLATES in k ROWS (1 .. 3) that share none (fewer ROWS well)", "fewer, none", () -> {
            for (int k = 1; k <= 3; k++) {
                due("without PLATES", new GreaterPlates().several(k), 0);
                due("one", with(5).several(k), 1);
                due("two, each a ROW", with(5, 4).several(k), Math.min(k, 2));
                due("all in one", with(1, 2, 3, 4, 5, 6, 7, 8).several(k), 8);
                due("each a ROW", with(8, 7, 6, 5, 4, 3, 2, 1).several(k), k);
            }
        });
    }

    // ---- orders

    private static void sevenPlates(GreaterPlates x) {
        small(x);
        come(x, 1, 3, 4, 5);
    }

    private static void orders() {
        String sentence = "ORDERS of just h HEAPS. BAD; STATE: there are more than 6 PLATES.";
        test(14, sentence, "BAD: no such LAYER", () -> {
            refused(BoundariesTest::small, "orders(-1, 1)", BAD, x -> x.orders(-1, 1));
            refused(BoundariesTest::small, "orders(2, 1)", BAD, x -> x.orders(2, 1));
            refused(BoundariesTest::small, "orders(MAX, 1)", BAD, x -> x.orders(MAX, 1));
        });
        test(14, "in how many a LAYER makes just h HEAPS (0 .. 8)", "BAD: h too small, too large", () -> {
            refused(BoundariesTest::small, "orders(0, -1)", BAD, x -> x.orders(0, -1));
            refused(BoundariesTest::small, "orders(0, 9)", BAD, x -> x.orders(0, 9));
            refused(BoundariesTest::small, "orders(0, MIN)", BAD, x -> x.orders(0, MIN));
            refused(BoundariesTest::small, "orders(0, MAX)", BAD, x -> x.orders(0, MAX));
        });
        test(14, "in how many a LAYER makes just h HEAPS (0 .. 8)", "h 0 and h 8", () -> {
            GreaterPlates x = with(1, 2, 3);
            x.layer(0, 0);
            due("orders(0, 0)", x.orders(0, 0), 0);
            due("orders(0, 8)", x.orders(0, 8), 0);
        });
        test(14, "all in which these could come (without any: one)", "without any", () -> {
            GreaterPlates x = new GreaterPlates();
            x.layer(0, 0);
            due("orders(0, 0)", x.orders(0, 0), 1);
            for (int h = 1; h <= 8; h++) {
                due("orders(0, " + h + ")", x.orders(0, h), 0);
            }
        });
        test(14, "ORDERS, of 6 PLATES at most", "six", () -> {
            GreaterPlates x = with(1, 2, 3, 4, 5, 6);
            x.layer(0, 0);
            int[] want = {0, 1, 131, 381, 181, 25, 1, 0, 0};
            int all = 0;
            for (int h = 0; h <= 8; h++) {
                all += x.orders(0, h);
                due("orders(0, " + h + ")", x.orders(0, h), want[h]);
            }
            due("all orders", all, 720);
        });
        test(14, sentence, "STATE: seven, eight", () -> {
            refused(BoundariesTest::sevenPlates, "orders(0, 1) of seven", STATE, x -> x.orders(0, 1));
            refused(BoundariesTest::full, "orders(0, 1) of eight", STATE, x -> x.orders(0, 1));
        });
        test(14, "Refusals, the first that the call's words name", "BAD ahead of STATE", () -> {
            refused(BoundariesTest::sevenPlates, "orders(2, 1)", BAD, x -> x.orders(2, 1));
            refused(BoundariesTest::sevenPlates, "orders(0, 9)", BAD, x -> x.orders(0, 9));
        });
    }

    private static void mean() {
        String sentence = "part 0 above, 1 below the line, in lowest terms. NO: none such; more than 6 PLATES.";
        test(15, sentence, "NO: no such LAYER", () -> {
            refused(BoundariesTest::small, "mean(-1, 0)", NO, x -> x.mean(-1, 0));
            refused(BoundariesTest::small, "mean(2, 1)", NO, x -> x.mean(2, 1));
            refused(BoundariesTest::small, "mean(MAX, 1)", NO, x -> x.mean(MAX, 1));
        });
        test(15, sentence, "NO: no such part", () -> {
            refused(BoundariesTest::small, "mean(0, -1)", NO, x -> x.mean(0, -1));
            refused(BoundariesTest::small, "mean(0, 2)", NO, x -> x.mean(0, 2));
            refused(BoundariesTest::small, "mean(0, MIN)", NO, x -> x.mean(0, MIN));
        });
        test(15, sentence, "NO: seven, eight PLATES", () -> {
            refused(BoundariesTest::sevenPlates, "mean(0, 0) of seven", NO, x -> x.mean(0, 0));
            refused(BoundariesTest::sevenPlates, "mean(0, 1) of seven", NO, x -> x.mean(0, 1));
            refused(BoundariesTest::full, "mean(0, 1) of eight", NO, x -> x.mean(0, 1));
        });
        test(15, sentence, "lowest terms: none, one, six, all alike", () -> {
            GreaterPlates x = new GreaterPlates();
            x.layer(0, 0);
            due("without PLATES: 0 above", x.mean(0, 0), 0);
            due("1 below", x.mean(0, 1), 1);
            x.plate(5, 0);
            due("one: 1 above", x.mean(0, 0), 1);
            due("1 below", x.mean(0, 1), 1);
            come(x, 5, 5, 5, 5, 5);
            due("six alike: 6 above", x.mean(0, 0), 6);
            due("1 below", x.mean(0, 1), 1);
            x.set(0, 0, 4);
            // 4 lies on a 5 unless it comes first: 5 heaps in 600 orders, 6 in 120.
            due("31 above", x.mean(0, 0), 31);
            due("6 below", x.mean(0, 1), 6);
        });
    }

    private static void bestOrder() {
        String sentence = "BAD: LAYER, no such place; STATE: more than 6 PLATES.";
        test(16, sentence, "BAD: no such LAYER", () -> {
            refused(BoundariesTest::small, "bestOrder(-1, 0)", BAD, x -> x.bestOrder(-1, 0));
            refused(BoundariesTest::small, "bestOrder(2, 0)", BAD, x -> x.bestOrder(2, 0));
            refused(BoundariesTest::small, "bestOrder(MAX, 0)", BAD, x -> x.bestOrder(MAX, 0));
        });
        test(16, sentence, "BAD: no such place", () -> {
            refused(BoundariesTest::small, "bestOrder(0, -1)", BAD, x -> x.bestOrder(0, -1));
            refused(BoundariesTest::small, "bestOrder(0, 3)", BAD, x -> x.bestOrder(0, 3));
            refused(BoundariesTest::small, "bestOrder(0, MIN)", BAD, x -> x.bestOrder(0, MIN));
            refused(BoundariesTest::small, "bestOrder(0, MAX)", BAD, x -> x.bestOrder(0, MAX));
            refused(y -> y.layer(0, 0), "bestOrder(0, 0) without PLATES", BAD, x -> x.bestOrder(0, 0));
        });
        test(16, sentence, "STATE: seven, eight", () -> {
            refused(BoundariesTest::sevenPlates, "bestOrder(0, 6) of seven", STATE, x -> x.bestOrder(0, 6));
            refused(BoundariesTest::sevenPlates, "bestOrder(0, 0) of seven", STATE, x -> x.bestOrder(0, 0));
            refused(BoundariesTest::full, "bestOrder(0, 7) of eight", STATE, x -> x.bestOrder(0, 7));
        });
        test(16, "Refusals, the first that the call's words name", "BAD ahead of STATE", () -> {
            refused(BoundariesTest::sevenPlates, "bestOrder(2, 0)", BAD, x -> x.bestOrder(2, 0));
            refused(BoundariesTest::sevenPlates, "bestOrder(0, 7)", BAD, x -> x.bestOrder(0, 7));
            refused(BoundariesTest::full, "bestOrder(0, 8)", BAD, x -> x.bestOrder(0, 8));
        });
        test(16, "the first one, by numbers, in which he makes fewest", "of several the first; six PLATES", () -> {
            GreaterPlates x = with(1, 2, 3, 4, 5, 6);
            x.layer(0, 0);
            GreaterPlates same = with(5, 5, 5, 5, 5, 5);
            same.layer(0, 0);
            for (int place = 0; place < 6; place++) {
                due("the only one, at " + place, x.bestOrder(0, place), 5 - place);
                due("all are as good, at " + place, same.bestOrder(0, place), place);
            }
        });
    }

    private static void came() {
        String sentence = "CAME. BAD; STATE: more than 6 PLATES.";
        test(17, sentence, "BAD: no such LAYER", () -> {
            refused(BoundariesTest::small, "came(-1)", BAD, x -> x.came(-1));
            refused(BoundariesTest::small, "came(2)", BAD, x -> x.came(2));
            refused(BoundariesTest::small, "came(MIN)", BAD, x -> x.came(MIN));
            refused(BoundariesTest::small, "came(MAX)", BAD, x -> x.came(MAX));
        });
        test(17, sentence, "STATE: seven, eight", () -> {
            refused(BoundariesTest::sevenPlates, "came(0) of seven", STATE, x -> x.came(0));
            refused(BoundariesTest::full, "came(0) of eight", STATE, x -> x.came(0));
        });
        test(17, "Refusals, the first that the call's words name", "BAD ahead of STATE", () ->
            refused(BoundariesTest::sevenPlates, "came(2)", BAD, x -> x.came(2)));
        test(17, "each PLATE comes to lie on the same one, or on none, as BY him in the order of now", "none, all, six", () -> {
            GreaterPlates x = new GreaterPlates();
            x.layer(0, 0);
            due("without PLATES", x.came(0), 1);
            x.plate(5, 0);
            due("one", x.came(0), 1);
            come(x, 5, 5, 5, 5, 5);
            due("six, all on none", x.came(0), 720);
            GreaterPlates y = with(6, 5, 4, 3, 2, 1);
            y.layer(0, 0);
            due("six, each on the one ahead", y.came(0), 1);
            GreaterPlates z = with(4, 9);
            z.layer(0, 0);
            due("the first on none, not on the other", z.came(0), 1);
        });
    }

    private static void less() {
        String sentence = "OUT (what 0), SWAP (1). BAD; NONE.";
        test(18, sentence, "BAD: what too small, too large", () -> {
            refused(BoundariesTest::small, "less(-1)", BAD, x -> x.less(-1));
            refused(BoundariesTest::small, "less(2)", BAD, x -> x.less(2));
            refused(BoundariesTest::small, "less(MIN)", BAD, x -> x.less(MIN));
            refused(BoundariesTest::small, "less(MAX)", BAD, x -> x.less(MAX));
        });
        test(18, "FEWEST is less; of several the first; NONE.", "none, one, the first, the last, none of many", () -> {
            due("without PLATES", new GreaterPlates().less(0), NONE);
            due("one", with(5).less(0), 0);
            due("of several the first", with(5, 5, 5).less(0), 0);
            due("the last of eight", with(8, 7, 6, 5, 4, 3, 2, 9).less(0), 7);
            due("one amid", with(9, 3, 5, 8).less(0), 1);
            due("none of them alone", with(5, 6, 2, 3).less(0), NONE);
            // 1 2 3 9 is the only longest ROW; 4 5 9 is shorter.
            due("the first of one row", with(4, 5, 1, 2, 3, 9).less(0), 2);
            due("one heap of two", with(5, 4).less(0), NONE);
        });
        test(18, "were PLATES i and i + 1 changed about, FEWEST is less; NONE.", "none, one, the first, the last", () -> {
            due("without PLATES", new GreaterPlates().less(1), NONE);
            due("one", with(5).less(1), NONE);
            due("two", with(4, 5).less(1), 0);
            due("the least of several", with(1, 2, 3).less(1), 0);
            due("the last two of eight", with(9, 8, 7, 6, 5, 4, 2, 3).less(1), 6);
            due("none", with(5, 5, 5).less(1), NONE);
            GreaterPlates x = with(4, 5);
            rule(x, "may size<top;pays 50;weighs 1;");
            due("FEWEST, not CHEAPEST", x.less(1), 0);
            GreaterPlates y = with(5, 4);
            rule(y, "may size<top;pays 50*(top<size);weighs 1;");
            due("nor so", y.less(1), NONE);
        });
        test(18, sentence, "what is asked changes nothing", () -> {
            // 7 2 8: without 8 one heap does; changed about, 2 7 8 and 7 8 2 take two at least.
            refused(BoundariesTest::small, "less(0)", 2, x -> x.less(0));
            refused(BoundariesTest::small, "less(1)", NONE, x -> x.less(1));
        });
    }

    private static void rises() {
        test(19, "RISES. BAD.", "what too small, too large", () -> {
            refused(BoundariesTest::small, "rises(-1)", BAD, x -> x.rises(-1));
            refused(BoundariesTest::small, "rises(2)", BAD, x -> x.rises(2));
            refused(BoundariesTest::small, "rises(MIN)", BAD, x -> x.rises(MIN));
            refused(BoundariesTest::small, "rises(MAX)", BAD, x -> x.rises(MAX));
        });
        test(19, "each of a greater SIZE than the one ahead (what 0), of a lesser one (1)", "none, one, like ones, eight", () -> {
            int[] up = {1, 2, 3, 4, 5, 6, 7, 8};
            int[] down = {8, 7, 6, 5, 4, 3, 2, 1};
            for (int what = 0; what < 2; what++) {
                due("without PLATES", new GreaterPlates().rises(what), 0);
                due("one", with(5).rises(what), 1);
                due("like ones", with(5, 5, 5).rises(what), 1);
                due("eight up", with(up).rises(what), what == 0 ? 8 : 1);
                due("eight down", with(down).rises(what), what == 0 ? 1 : 8);
            }
        });
    }

    private static void judge() {
        String sentence = "JUDGED. BAD: SHEET; -11; NONE.";
        test(20, sentence, "BAD: no such SHEET", () -> {
            refused(BoundariesTest::small, "judge(-1)", BAD, x -> x.judge(-1));
            refused(BoundariesTest::small, "judge(4)", BAD, x -> x.judge(4));
            refused(BoundariesTest::small, "judge(MIN)", BAD, x -> x.judge(MIN));
            refused(BoundariesTest::small, "judge(MAX)", BAD, x -> x.judge(MAX));
        });
        test(20, sentence, "-11: it is missing", () -> {
            refused(BoundariesTest::small, "judge(3)", NOTHING, x -> x.judge(3));
            GreaterPlates x = with(5);
            x.sheet(0, 0, 1);
            due("there", x.judge(0), NONE);
            x.sheet(0, -1, 1);
            due("missing again", x.judge(0), NOTHING);
        });
        test(20, "(the number of how many there are by then: a new one)", "one too many, a number below 0", () -> {
            GreaterPlates x = with(5, 4, 3);
            fill(x, 0, 2, 0, 1, 2);
            due("three new ones", x.judge(0), NONE);
            int[] numbers = {1, 2, -1, MAX, MIN, 8, 64};
            for (int number : numbers) {
                fill(x, 0, 2, number, 0, 0);
                due("first " + number, x.judge(0), 0);
                fill(x, 0, 2, 0, number, 0);
                due("second " + number, x.judge(0), number == 1 ? NONE : 1);
                fill(x, 0, 2, 0, 0, number);
                due("third " + number, x.judge(0), number == 1 ? NONE : 2);
            }
        });
        test(20, "the first (from 0) that is none such, on which it MAY not lie, or for which there is no PLATE; NONE.",
            "on which it MAY not lie", () -> {
                GreaterPlates x = with(5, 5, 4);
                fill(x, 0, 1, 0, 0, 0);
                due("by may", x.judge(0), 1);
                fill(x, 0, 1, 0, 1, 0);
                due("lawful", x.judge(0), NONE);
                x.set(2, 0, 1);
                due("by HIGHEST", x.judge(0), 2);
                fill(x, 0, 1, 0, 0, 7);
                due("of several the first", x.judge(0), 1);
            });
        test(20, "the first (from 0) that is none such, on which it MAY not lie, or for which there is no PLATE; NONE.",
            "no PLATE", () -> {
                GreaterPlates x = new GreaterPlates();
                fill(x, 0, 0);
                due("nothing told, no PLATES", x.judge(0), NONE);
                fill(x, 0, 0, 0);
                due("one told, no PLATES", x.judge(0), 0);
                x.plate(5, 0);
                due("one told, one PLATE", x.judge(0), NONE);
                fill(x, 0, 0, 0, 1);
                due("two told, one PLATE", x.judge(0), 1);
                fill(x, 0, 0);
                due("nothing told, one PLATE", x.judge(0), NONE);
                come(x, 4, 3, 2, 1, 1, 1, 1);
                x.sheet(0, 0, 40);
                rule(x, "may 1;pays 1;weighs 1;");
                due("forty told, eight PLATES", x.judge(0), 8);
                fill(x, 0, 0, 0, 1, 2, 3, 4, 5, 6, 7, 8);
                due("a ninth heap told, eight PLATES", x.judge(0), 8);
            });
        test(20, "no HEAPS being there at first (the number of how many there are by then: a new one)", "THE TABLE does not matter",
            () -> {
                GreaterPlates x = with(5, 4);
                x.layer(0, 0);
                x.lay(0);
                fill(x, 0, 0, 1, 0);
                due("heap 1 first", x.judge(0), 0);
                fill(x, 0, 0, 0, 1);
                due("heaps 0, 1", x.judge(0), NONE);
                due("count(3) stays", x.count(3), 1);
            });
    }

    private static void stranger() {
        String sentence = "STRANGER. BAD: SHEET; -11; BAD: its size.";
        test(21, sentence, "BAD: no such SHEET", () -> {
            refused(BoundariesTest::small, "stranger(-1)", BAD, x -> x.stranger(-1));
            refused(BoundariesTest::small, "stranger(4)", BAD, x -> x.stranger(4));
            refused(BoundariesTest::small, "stranger(MIN)", BAD, x -> x.stranger(MIN));
            refused(BoundariesTest::small, "stranger(MAX)", BAD, x -> x.stranger(MAX));
        });
        test(21, sentence, "-11: it is missing", () -> refused(BoundariesTest::small, "stranger(3)", NOTHING, x -> x.stranger(3)));
        test(21, sentence, "BAD: its size is one less, one more, 0, 40", () -> {
            GreaterPlates x = with(5, 4, 3);
            x.layer(0, 0);
            for (int n = 0; n <= 40; n++) {
                x.sheet(0, 0, n);
                due("a size of " + n, x.stranger(0), n == 3 ? 1 : BAD);
            }
        });
        test(21, "(the SHEET has as many as there are PLATES)", "none of both; no LAYERS", () -> {
            GreaterPlates x = new GreaterPlates();
            x.sheet(0, 0, 0);
            due("no LAYERS", x.stranger(0), 0);
            for (int kind = 0; kind < 5; kind++) {
                x.layer(kind, 0);
            }
            due("all five", x.stranger(0), 31);
            x.plate(5, 0);
            due("a PLATE came", x.stranger(0), BAD);
            x.sheet(0, 0, 1);
            due("all five", x.stranger(0), 31);
            x.cell(0, 0, 1);
            due("none", x.stranger(0), 0);
            x.cell(0, 0, -1);
            due("none", x.stranger(0), 0);
        });
        test(21, "LAYERS (bits) who would lay just so", "as they come, whatever was asked ahead", () -> {
            GreaterPlates x = with(4, 5);
            x.layer(0, 0);
            fill(x, 0, 0, 0, 1);
            due("drawn, changed about", x.drawn(0, 1), 1);
            due("stranger(0)", x.stranger(0), 1);
            due("changed about, one heap is enough", x.less(1), 0);
            due("stranger(0)", x.stranger(0), 1);
            due("orders(0, 1)", x.orders(0, 1), 1);
            due("stranger(0)", x.stranger(0), 1);
        });
    }

    // ---- the table

    private static void lay() {
        String sentence = "LAY: the heap. BAD; STATE: all are LAID.";
        test(22, sentence, "BAD: no such LAYER", () -> {
            refused(BoundariesTest::small, "lay(-1)", BAD, x -> x.lay(-1));
            refused(BoundariesTest::small, "lay(2)", BAD, x -> x.lay(2));
            refused(BoundariesTest::full, "lay(5)", BAD, x -> x.lay(5));
            refused(BoundariesTest::small, "lay(MIN)", BAD, x -> x.lay(MIN));
            refused(BoundariesTest::small, "lay(MAX)", BAD, x -> x.lay(MAX));
        });
        Scene allLaid = x -> {
            small(x);
            x.lay(0);
        };
        test(22, sentence, "STATE: all are LAID", () -> {
            refused(allLaid, "lay(0)", STATE, x -> x.lay(0));
            refused(y -> y.layer(0, 0), "lay(0) without PLATES", STATE, x -> x.lay(0));
            refused(y -> { allLaid.build(y); y.take(1); }, "lay(0) with one taken", STATE, x -> x.lay(0));
        });
        test(22, "Refusals, the first that the call's words name", "BAD ahead of STATE", () -> {
            refused(allLaid, "lay(2)", BAD, x -> x.lay(2));
            refused(y -> { }, "lay(0) without PLATES and LAYERS", BAD, x -> x.lay(0));
        });
        test(22, "the next one that isn't LAID is truly laid by a LAYER", "all eight, and one that comes later", () -> {
            GreaterPlates x = new GreaterPlates();
            x.layer(0, 0);
            for (int i = 0; i < 8; i++) {
                due("nothing to lay", x.lay(0), STATE);
                x.plate(i, 0);
                due("lay(0)", x.lay(0), i);
                due("count(2)", x.count(2), i + 1);
                due("count(3)", x.count(3), i + 1);
                due("on", x.on(i, 0), i);
            }
            due("nothing to lay", x.lay(0), STATE);
        });
        test(22, "so many at most lie on a heap", "HIGHEST on THE TABLE, also one set lower", () -> {
            GreaterPlates x = with(8, 7, 6, 5, 4);
            x.layer(0, 0);
            x.set(2, 0, 2);
            due("7 on 8", x.lay(0) + x.lay(0), 0);
            due("6 begins one", x.lay(0), 1);
            x.set(2, 0, 1);
            due("5 begins one", x.lay(0), 2);
            x.set(2, 0, 3);
            due("4 on 5, the least", x.lay(0), 2);
        });
    }

    /** Heap 0 with one plate on which none may lie, heap 1 empty, and one more plate to lay. */
    private static GreaterPlates oneEmpty(int kind, int number, int nextSize) {
        GreaterPlates x = with(10, 20, nextSize);
        x.layer(2, 0);
        x.layer(kind, number);
        rule(x, "may 0;pays 1;weighs 1;");
        x.lay(0);
        x.lay(0);
        x.take(1);
        return x;
    }

    private static void take() {
        String sentence = "TAKE: the PLATE. BAD: no such heap; STATE: none is on it.";
        test(23, sentence, "BAD: no such heap", () -> {
            refused(BoundariesTest::small, "take(-1)", BAD, x -> x.take(-1));
            refused(BoundariesTest::small, "take(2)", BAD, x -> x.take(2));
            refused(BoundariesTest::small, "take(MIN)", BAD, x -> x.take(MIN));
            refused(BoundariesTest::small, "take(MAX)", BAD, x -> x.take(MAX));
            refused(y -> { }, "take(0) without HEAPS", BAD, x -> x.take(0));
        });
        test(23, sentence, "STATE: none is on it", () -> {
            refused(BoundariesTest::small, "take(0)", STATE, x -> x.take(0));
            GreaterPlates x = new GreaterPlates();
            small(x);
            due("take(1)", x.take(1), 1);
            due("take(1)", x.take(1), STATE);
            due("take(1)", x.take(1), STATE);
        });
        test(23, "(it is gone from THE TABLE; a heap with none on it stays a heap", "PLATES, LAID, HEAPS stay", () -> {
            GreaterPlates x = with(9, 8);
            x.layer(0, 0);
            x.lay(0);
            x.lay(0);
            due("take(0)", x.take(0), 1);
            due("on(0, 1)", x.on(0, 1), NONE);
            due("take(0)", x.take(0), 0);
            due("on(0, 0)", x.on(0, 0), NONE);
            due("count(0)", x.count(0), 2);
            due("count(2)", x.count(2), 2);
            due("count(3)", x.count(3), 1);
            due("told(1, 0)", x.told(1, 0), 8);
            due("it is not laid again", x.lay(0), STATE);
        });
        test(23, "any MAY lie on it, and its RANK is 1000 for all", "any MAY, though may be 0", () -> {
            int[] kinds = {0, 2, 4, 4, 4};
            int[] numbers = {0, 0, 0, 3, 9};
            for (int i = 0; i < kinds.length; i++) {
                due("kind " + kinds[i] + " of " + numbers[i], oneEmpty(kinds[i], numbers[i], 99).lay(1), 1);
            }
            GreaterPlates x = oneEmpty(0, 0, 99);
            x.set(2, 0, 1);
            due("HIGHEST 1", x.lay(1), 1);
        });
        test(23, "any MAY lie on it, and its RANK is 1000 for all", "1000 is above 50, and more than any other", () -> {
            int[] likers = {1, 3, 5};
            for (int kind : likers) {
                due("kind " + kind + " begins a new one", oneEmpty(kind, 0, 15).lay(1), 2);
            }
            int[] kinds = {0, 1, 2, 3, 4};
            for (int kind : kinds) {
                GreaterPlates x = oneEmpty(kind, 0, 9);
                x.force(0);
                due("kind " + kind + " lays it on heap 0", x.lay(1), 0);
            }
            GreaterPlates last = oneEmpty(4, 3, 9);
            last.force(0);
            due("a TOLD of 3: 3 is less than 1000", last.lay(1), 0);
        });
        test(23, "any MAY lie on it, and its RANK is 1000 for all", "of like ones the least number", () -> {
            GreaterPlates x = oneEmpty(0, 0, 99);
            x.take(0);
            due("both are empty", x.lay(1), 0);
            due("on(0, 0)", x.on(0, 0), 2);
            due("count(3)", x.count(3), 2);
        });
        test(23, "m HEAPS there are", "empty ones are counted", () -> {
            GreaterPlates x = oneEmpty(4, 5, 99);
            due("a TOLD of 5, two heaps: on the empty one", x.lay(1), 1);
            GreaterPlates y = with(20, 99);
            y.layer(4, 5);
            y.lay(0);
            y.take(0);
            due("a TOLD of 5, one heap: a new one", y.lay(0), 1);
        });
    }

    private static void on() {
        String sentence = "The PLATE on a heap at a height (0 the lowest). BAD: no such heap; NONE.";
        test(24, sentence, "BAD: no such heap", () -> {
            refused(BoundariesTest::small, "on(-1, 0)", BAD, x -> x.on(-1, 0));
            refused(BoundariesTest::small, "on(2, 0)", BAD, x -> x.on(2, 0));
            refused(BoundariesTest::small, "on(MIN, 0)", BAD, x -> x.on(MIN, 0));
            refused(BoundariesTest::small, "on(MAX, -1)", BAD, x -> x.on(MAX, -1));
            refused(y -> { }, "on(0, 0) without HEAPS", BAD, x -> x.on(0, 0));
        });
        test(24, sentence, "NONE: too low, too high, an empty heap", () -> {
            refused(BoundariesTest::small, "on(1, -1)", NONE, x -> x.on(1, -1));
            refused(BoundariesTest::small, "on(1, 1)", NONE, x -> x.on(1, 1));
            refused(BoundariesTest::small, "on(1, MIN)", NONE, x -> x.on(1, MIN));
            refused(BoundariesTest::small, "on(1, MAX)", NONE, x -> x.on(1, MAX));
            refused(BoundariesTest::small, "on(0, 0)", NONE, x -> x.on(0, 0));
        });
        test(24, sentence, "the lowest and the highest of eight; no other heap's", () -> {
            GreaterPlates x = with(9, 8, 7, 6, 5, 4, 3, 2);
            x.layer(0, 0);
            for (int i = 0; i < 8; i++) {
                x.lay(0);
            }
            due("on(0, 0)", x.on(0, 0), 0);
            due("on(0, 7)", x.on(0, 7), 7);
            due("on(0, 8)", x.on(0, 8), NONE);
            GreaterPlates y = with(1, 2);
            y.layer(0, 0);
            y.lay(0);
            y.lay(0);
            due("on(0, 8)", y.on(0, 8), NONE);
            due("on(1, -8)", y.on(1, -8), NONE);
        });
    }

    private static void drawn() {
        test(25, "DRAWN. BAD.", "no such LAYER", () -> {
            refused(BoundariesTest::small, "drawn(-1, 1)", BAD, x -> x.drawn(-1, 1));
            refused(BoundariesTest::small, "drawn(2, 1)", BAD, x -> x.drawn(2, 1));
            refused(BoundariesTest::full, "drawn(5, 1)", BAD, x -> x.drawn(5, 1));
            refused(BoundariesTest::small, "drawn(MIN, 1)", BAD, x -> x.drawn(MIN, 1));
            refused(BoundariesTest::small, "drawn(MAX, 1)", BAD, x -> x.drawn(MAX, 1));
        });
        String sentence = "for places i 0 .. n - 2 z = z * 1103515245 + 12345 (an int; SEED at first)";
        test(25, sentence, "none, one, two PLATES", () -> {
            GreaterPlates x = new GreaterPlates();
            x.layer(0, 0);
            due("without PLATES", x.drawn(0, 5), 0);
            x.plate(5, 0);
            due("one", x.drawn(0, MIN), 1);
            x.plate(4, 0);
            // 12345 >>> 9 is 24, even: as they came. By 1 z is 1103527590, >>> 9 is 2155327, odd: changed about.
            due("two, SEED 0", x.drawn(0, 0), 1);
            due("two, SEED 1", x.drawn(0, 1), 2);
        });
        test(25, sentence, "SEEDS at the edges of an int; z wraps and z >>> 9 is never below 0", () -> {
            int[] sizes = {7, 2, 8, 1, 3, 4, 9, 5};
            int[] seeds = {MIN, MIN + 1, -1, 0, 1, MAX - 1, MAX};
            for (int n = 1; n <= 8; n++) {
                GreaterPlates x = new GreaterPlates();
                x.layer(0, 0);
                for (int i = 0; i < n; i++) {
                    x.plate(sizes[i], 0);
                }
                for (int seed : seeds) {
                    due(n + " drawn by " + seed, x.drawn(0, seed), heapsOfDrawn(sizes, n, seed));
                }
            }
        });
        test(25, "DRAWN. BAD.", "nothing is changed about truly", () ->
            // 7 2 8 are drawn as 2 7 8.
            refused(BoundariesTest::small, "drawn(0, 1)", 3, x -> x.drawn(0, 1)));
    }

    /** By longs, whose lowest 32 bits are what an int would hold. */
    private static int heapsOfDrawn(int[] sizes, int n, int seed) {
        int[] row = sizes.clone();
        long z = seed & 0xffffffffL;
        for (int i = 0; i <= n - 2; i++) {
            z = (z * 1103515245L + 12345L) & 0xffffffffL;
            int j = i + (int) ((z >> 9) % (n - i));
            int one = row[i];
            row[i] = row[j];
            row[j] = one;
        }
        int heaps = 0;
        int[] tops = new int[n];
        for (int i = 0; i < n; i++) {
            int on = -1;
            for (int heap = 0; heap < heaps; heap++) {
                on = row[i] < tops[heap] && (on < 0 || tops[heap] < tops[on]) ? heap : on;
            }
            tops[on < 0 ? heaps : on] = row[i];
            heaps += on < 0 ? 1 : 0;
        }
        return heaps;
    }

    private static void image() {
        test(26, "AN IMAGE is kept: how many are LAID.", "of an empty TABLE", () -> {
            GreaterPlates x = new GreaterPlates();
            due("image()", x.image(), 0);
            x.layer(0, 0);
            x.plate(5, 0);
            x.lay(0);
            due("back()", x.back(), 0);
            due("count(2)", x.count(2), 0);
            due("count(3)", x.count(3), 0);
            due("on(0, 0)", x.on(0, 0), BAD);
            due("laid again", x.lay(0), 0);
        });
        test(26, "AN IMAGE is kept: how many are LAID.", "all eight; a later one is kept instead", () -> {
            GreaterPlates x = with(8, 7, 6, 5, 4, 3, 2, 1);
            x.layer(0, 0);
            for (int i = 0; i < 8; i++) {
                due("image()", x.image(), i);
                x.lay(0);
            }
            due("image()", x.image(), 8);
            x.take(0);
            due("back()", x.back(), 8);
            due("on(0, 7)", x.on(0, 7), 7);
        });
        test(26, "AN IMAGE is kept: how many are LAID.", "it changes nothing, and is not changed by what comes", () -> {
            GreaterPlates x = with(8, 7, 6);
            x.layer(0, 0);
            x.lay(0);
            x.lay(0);
            due("image()", x.image(), 2);
            due("on(0, 1)", x.on(0, 1), 1);
            x.take(0);
            x.take(0);
            x.lay(0);
            due("back()", x.back(), 2);
            due("on(0, 0)", x.on(0, 0), 0);
            due("on(0, 1)", x.on(0, 1), 1);
            x.take(0);
            due("back()", x.back(), 2);
            due("it is not THE TABLE itself", x.on(0, 1), 1);
        });
        test(26, "AN IMAGE keeps THE TABLE, how many are LAID, HIGHEST, THE RULE", "empty heaps too", () -> {
            GreaterPlates x = with(1, 2, 3);
            x.layer(0, 0);
            x.lay(0);
            x.lay(0);
            x.take(0);
            x.image();
            x.take(1);
            x.lay(0);
            due("back()", x.back(), 2);
            due("count(3)", x.count(3), 2);
            due("on(0, 0)", x.on(0, 0), NONE);
            due("on(1, 0)", x.on(1, 0), 1);
            due("take(0)", x.take(0), STATE);
        });
    }

    private static void back() {
        test(27, "STATE: there is none.", "refused", () -> {
            Scene noImage = x -> {
                come(x, 5, 4);
                x.layer(0, 0);
                x.lay(0);
                x.set(2, 0, 3);
                rule(x, "may 1;pays 1;weighs 7;");
            };
            refused(noImage, "back()", STATE, x -> x.back());
        });
        test(27, "All that it keeps is as in THE IMAGE: how many are LAID.", "each thing that it keeps", () -> {
            GreaterPlates x = new GreaterPlates();
            small(x);
            x.set(2, 0, 1);
            x.force(0);
            due("back()", x.back(), 1);
            due("count(2)", x.count(2), 1);
            due("count(3)", x.count(3), 1);
            due("count(4)", x.count(4), 9);
            due("count(7)", x.count(7), 0);
            due("on(0, 0)", x.on(0, 0), 0);
            x.force(1);
            x.set(2, 0, 2);
            x.image();
            x.force(0);
            x.set(2, 0, 9);
            due("back()", x.back(), 1);
            due("count(4)", x.count(4), 2);
            due("count(7)", x.count(7), 1);
        });
        test(27, "(PLATES, LAYERS that came since stay)", "and what it does not keep", () -> {
            GreaterPlates x = new GreaterPlates();
            x.image();
            small(x);
            x.set(0, 0, 77);
            x.set(1, 0, 66);
            due("back()", x.back(), 1);
            int[] counts = {3, 2, 1, 1, 9, 2, 21, 0};
            for (int what = 0; what < 8; what++) {
                due("count(" + what + ")", x.count(what), counts[what]);
            }
            due("told(0, 0)", x.told(0, 0), 77);
            due("told(0, 1)", x.told(0, 1), 66);
            due("a SHEET", x.plates(1, 1, 0, 1), 1);
            due("its first", x.told(3, 0), 11);
            due("again", x.back(), 1);
            due("and again", x.back(), 1);
        });
    }

    private static void count() {
        test(28, "5 TEXTS, 6 bytes of THE TAPE, 7 THE RULE. BAD.", "too small, too large", () -> {
            refused(BoundariesTest::small, "count(-1)", BAD, x -> x.count(-1));
            refused(BoundariesTest::small, "count(8)", BAD, x -> x.count(8));
            refused(BoundariesTest::small, "count(MIN)", BAD, x -> x.count(MIN));
            refused(BoundariesTest::small, "count(MAX)", BAD, x -> x.count(MAX));
        });
        test(28, "How many: 0 PLATES, 1 LAYERS, 2 LAID, 3 HEAPS of THE TABLE, 4 HIGHEST", "empty, and full", () -> {
            int[] none = {0, 0, 0, 0, 9, 1, 0, 0};
            int[] most = {8, 5, 8, 8, 9, 6, 160, 5};
            GreaterPlates x = new GreaterPlates();
            GreaterPlates y = with(1, 2, 3, 4, 5, 6, 7, 8);
            for (int i = 0; i < 5; i++) {
                y.layer(i, 0);
                read(y, "may 0;pays 1;weighs 1;");
            }
            for (int i = 0; i < 8; i++) {
                y.lay(0);
            }
            y.force(5);
            type(y, "x".repeat(161));
            for (int what = 0; what < 8; what++) {
                due("count(" + what + ") of a new one", x.count(what), none[what]);
                due("count(" + what + ") of a full one", y.count(what), most[what]);
            }
        });
    }

    // ---- the host

    private static void sheet() {
        String sentence = "BAD: no such SHEET, sort; n above 40; -14.";
        test(29, sentence, "BAD: no such SHEET", () -> {
            refused(BoundariesTest::small, "sheet(-1, 0, 1)", BAD, x -> x.sheet(-1, 0, 1));
            refused(BoundariesTest::small, "sheet(4, 0, 1)", BAD, x -> x.sheet(4, 0, 1));
            refused(BoundariesTest::small, "sheet(4, -1, 1)", BAD, x -> x.sheet(4, -1, 1));
            refused(BoundariesTest::small, "sheet(MIN, 0, 1)", BAD, x -> x.sheet(MIN, 0, 1));
            refused(BoundariesTest::small, "sheet(MAX, 0, 1)", BAD, x -> x.sheet(MAX, 0, 1));
        });
        test(29, sentence, "BAD: no such sort", () -> {
            for (int sheet = 0; sheet < 4; sheet++) {
                int s = sheet;
                refused(BoundariesTest::small, "sheet(" + s + ", -2, 1)", BAD, x -> x.sheet(s, -2, 1));
                refused(BoundariesTest::small, "sheet(" + s + ", 3, 1)", BAD, x -> x.sheet(s, 3, 1));
                refused(BoundariesTest::small, "sheet(" + s + ", MAX, 1)", BAD, x -> x.sheet(s, MAX, 1));
            }
        });
        test(29, sentence, "BAD: n above 40", () -> {
            for (int sort = 0; sort < 3; sort++) {
                int s = sort;
                refused(BoundariesTest::small, "sheet(0, " + s + ", 41)", BAD, x -> x.sheet(0, s, 41));
                refused(BoundariesTest::small, "sheet(3, " + s + ", MAX)", BAD, x -> x.sheet(3, s, MAX));
            }
        });
        test(29, "-14 a size below 0", "refused", () -> {
            for (int sort = 0; sort < 3; sort++) {
                int s = sort;
                refused(BoundariesTest::small, "sheet(0, " + s + ", -1)", BELOW_ZERO, x -> x.sheet(0, s, -1));
                refused(BoundariesTest::small, "sheet(3, " + s + ", MIN)", BELOW_ZERO, x -> x.sheet(3, s, MIN));
            }
        });
        test(29, "Refusals, the first that the call's words name", "BAD ahead of -14", () -> {
            refused(BoundariesTest::small, "sheet(4, 0, -1)", BAD, x -> x.sheet(4, 0, -1));
            refused(BoundariesTest::small, "sheet(0, 3, -1)", BAD, x -> x.sheet(0, 3, -1));
            refused(BoundariesTest::small, "sheet(0, -2, -1)", BAD, x -> x.sheet(0, -2, -1));
        });
        test(29, "A SHEET becomes a row of n of a sort, all 0", "n 0, n 40, and what stood there", () -> {
            GreaterPlates x = new GreaterPlates();
            for (int sort = 0; sort < 3; sort++) {
                due("n 0", x.sheet(sort, sort, 0), 1);
                due("cell 0 of none", x.cell(sort, 0, 1), OUTSIDE);
                due("n 40", x.sheet(sort, sort, 40), 1);
                due("cell 39", x.cell(sort, 39, 7), 1);
                due("cell 38", x.cell(sort, 38, 7), 1);
                due("cell 40", x.cell(sort, 40, 7), OUTSIDE);
                due("n 40 again", x.sheet(sort, sort, 40), 1);
                due("its last two", x.plates(sort, sort, 38, 1), 1);
                due("are 0", x.told(sort, 0) + x.told(sort, 1), 0);
            }
        });
        test(29, "or missing (sort -1: n does not matter): 1.", "n too small, too large", () -> {
            int[] sizes = {-1, 41, 0, MIN, MAX};
            for (int n : sizes) {
                GreaterPlates x = new GreaterPlates();
                small(x);
                due("sheet(1, -1, " + n + ")", x.sheet(1, -1, n), 1);
                due("missing", x.judge(1), NOTHING);
                due("another is not", x.cell(0, 0, 0), 1);
                due("it may come again", x.sheet(1, 2, 1), 1);
                due("as one of 1", x.cell(1, 1, 0), OUTSIDE);
            }
        });
        test(29, "SHEETS 0 .. 3 are rows of numbers", "the first and the last", () -> {
            GreaterPlates x = new GreaterPlates();
            due("sheet(0, 0, 1)", x.sheet(0, 0, 1), 1);
            due("sheet(3, 2, 2)", x.sheet(3, 2, 2), 1);
            due("each has its own", x.cell(0, 1, 1), OUTSIDE);
            due("each has its own", x.cell(3, 1, 1), 1);
        });
    }

    /** What item 0 of a sheet of one item is, as far as it is 0 .. 99; else NONE. */
    private static int kept(int sort, int v) {
        GreaterPlates x = new GreaterPlates();
        x.sheet(0, sort, 2);
        x.cell(0, 0, v);
        return x.plates(0, sort, 0, 1) == 1 ? x.told(0, 0) : NONE;
    }

    private static void cell() {
        String sentence = "BAD: no such SHEET; -11; -12.";
        test(30, sentence, "BAD: no such SHEET", () -> {
            refused(BoundariesTest::small, "cell(-1, 0, 9)", BAD, x -> x.cell(-1, 0, 9));
            refused(BoundariesTest::small, "cell(4, 0, 9)", BAD, x -> x.cell(4, 0, 9));
            refused(BoundariesTest::small, "cell(MIN, 0, 9)", BAD, x -> x.cell(MIN, 0, 9));
            refused(BoundariesTest::small, "cell(MAX, 0, 9)", BAD, x -> x.cell(MAX, 0, 9));
        });
        test(30, "-11 nothing where something is asked", "it is missing", () -> {
            refused(BoundariesTest::small, "cell(3, 0, 9)", NOTHING, x -> x.cell(3, 0, 9));
            refused(BoundariesTest::small, "cell(3, -1, 9), ahead of -12", NOTHING, x -> x.cell(3, -1, 9));
        });
        test(30, "-12 a place outside", "too small, too large, an empty one", () -> {
            for (int sheet = 0; sheet < 3; sheet++) {
                int s = sheet;
                int n = sheet == 0 ? 3 : 2;
                refused(BoundariesTest::small, "cell(" + s + ", -1, 9)", OUTSIDE, x -> x.cell(s, -1, 9));
                refused(BoundariesTest::small, "cell(" + s + ", " + n + ", 9)", OUTSIDE, x -> x.cell(s, n, 9));
                refused(BoundariesTest::small, "cell(" + s + ", MIN, 9)", OUTSIDE, x -> x.cell(s, MIN, 9));
                refused(BoundariesTest::small, "cell(" + s + ", MAX, 9)", OUTSIDE, x -> x.cell(s, MAX, 9));
            }
            refused(y -> y.sheet(0, 0, 0), "cell(0, 0, 9) of an empty one", OUTSIDE, x -> x.cell(0, 0, 9));
        });
        test(30, "Item i of a SHEET becomes v (of bytes, shorts its lowest 8, 16 bits): 1.", "wrap-around", () -> {
            int[] values = {99, 255, 256, 256 + 99, -256, -256 + 7, 65535, 65536, 65536 + 99, -65536 + 7, MIN, MAX, MIN + 5};
            for (int v : values) {
                due("a byte of " + v, kept(0, v), seen((byte) v));
                due("a short of " + v, kept(1, v), seen((short) v));
                due("an int of " + v, kept(2, v), seen(v));
            }
        });
    }

    private static int seen(int v) {
        return v >= 0 && v <= 99 ? v : NONE;
    }

    /** The numbers of two sheets of shorts behind a copy, as one number each: two digits an item. */
    private static void copied(String what, int from, int i, int to, int j, int n, String wantFrom, String wantTo) {
        GreaterPlates x = new GreaterPlates();
        fill(x, 0, 1, 10, 11, 12, 13, 14, 15);
        fill(x, 1, 1, 20, 21, 22, 23);
        due(what, x.copy(from, i, to, j, n), n);
        must(items(x, 0, 6).equals(wantFrom), what + ": sheet 0 is " + wantFrom);
        must(items(x, 1, 4).equals(wantTo), what + ": sheet 1 is " + wantTo);
    }

    private static String items(GreaterPlates x, int sheet, int n) {
        StringBuilder all = new StringBuilder();
        int first = x.count(0);
        x.plates(sheet, 1, 0, n / 2);
        for (int i = 0; i < n; i++) {
            all.append(x.told(first + i / 2, i % 2)).append(i + 1 < n ? " " : "");
        }
        return all.toString();
    }

    private static void copy() {
        String sentence = "BAD: no such SHEET; -11; -13: they are of unlike sorts; -12 (also with n below 0).";
        Scene twoShorts = x -> {
            small(x);
            fill(x, 3, 1, 21, 22, 23);
        };
        test(31, sentence, "BAD: no such SHEET, the one or the other", () -> {
            int[] numbers = {-1, 4, MIN, MAX};
            for (int s : numbers) {
                refused(BoundariesTest::small, "copy(" + s + ", 0, 0, 0, 1)", BAD, x -> x.copy(s, 0, 0, 0, 1));
                refused(BoundariesTest::small, "copy(0, 0, " + s + ", 0, 1)", BAD, x -> x.copy(0, 0, s, 0, 1));
                refused(BoundariesTest::small, "copy(3, 0, " + s + ", 0, -1), ahead of -11", BAD, x -> x.copy(3, 0, s, 0, -1));
            }
        });
        test(31, sentence, "-11: the one or the other is missing", () -> {
            refused(BoundariesTest::small, "copy(3, 0, 0, 0, 1)", NOTHING, x -> x.copy(3, 0, 0, 0, 1));
            refused(BoundariesTest::small, "copy(0, 0, 3, 0, 1)", NOTHING, x -> x.copy(0, 0, 3, 0, 1));
            refused(BoundariesTest::small, "copy(3, 0, 3, 0, 0)", NOTHING, x -> x.copy(3, 0, 3, 0, 0));
            refused(BoundariesTest::small, "copy(0, -1, 3, 0, -1), ahead of -12", NOTHING, x -> x.copy(0, -1, 3, 0, -1));
        });
        test(31, sentence, "-13: unlike sorts", () -> {
            for (int sheet = 0; sheet < 3; sheet++) {
                int s = sheet;
                int o = (sheet + 1) % 3;
                refused(BoundariesTest::small, "copy(" + s + ", 0, " + o + ", 0, 1)", OTHER_SORT, x -> x.copy(s, 0, o, 0, 1));
                refused(BoundariesTest::small, "copy(" + o + ", 0, " + s + ", 0, 0)", OTHER_SORT, x -> x.copy(o, 0, s, 0, 0));
                refused(BoundariesTest::small, "copy(" + s + ", -1, " + o + ", 0, -1), ahead of -12", OTHER_SORT,
                    x -> x.copy(s, -1, o, 0, -1));
            }
        });
        test(31, sentence, "-12: i, j too small, too large", () -> {
            int[][] places = {{-1, 0, 1}, {0, -1, 1}, {2, 0, 1}, {0, 3, 1}, {1, 0, 2}, {0, 2, 2}, {0, 0, 3}, {3, 0, 0}, {0, 4, 0},
                {-1, 0, 0}, {0, -1, 0}, {MIN, 0, 0}, {0, MIN, 1}, {MAX, 0, 1}, {0, MAX, 1}, {MAX, MAX, MAX}, {1, 1, MAX}};
            for (int[] p : places) {
                refused(twoShorts, "copy(1, " + p[0] + ", 3, " + p[1] + ", " + p[2] + ")", OUTSIDE,
                    x -> x.copy(1, p[0], 3, p[1], p[2]));
            }
        });
        test(31, sentence, "-12: n below 0", () -> {
            int[] numbers = {-1, -2, MIN, -MAX};
            for (int n : numbers) {
                refused(twoShorts, "copy(1, 0, 3, 0, " + n + ")", OUTSIDE, x -> x.copy(1, 0, 3, 0, n));
                refused(twoShorts, "copy(1, 2, 3, 3, " + n + ")", OUTSIDE, x -> x.copy(1, 2, 3, 3, n));
            }
        });
        test(31, "n numbers of a SHEET, from item i on, come to another one's item j on (as they were): n.", "none, all", () -> {
            copied("none", 0, 0, 1, 0, 0, "10 11 12 13 14 15", "20 21 22 23");
            copied("none at both ends", 0, 6, 1, 4, 0, "10 11 12 13 14 15", "20 21 22 23");
            copied("all of the other", 0, 2, 1, 0, 4, "10 11 12 13 14 15", "12 13 14 15");
            copied("up to both ends", 0, 5, 1, 3, 1, "10 11 12 13 14 15", "20 21 22 15");
            copied("all of the one", 1, 0, 0, 2, 4, "10 11 20 21 22 23", "20 21 22 23");
        });
        test(31, "n numbers of a SHEET, from item i on, come to another one's item j on (as they were): n.", "the same SHEET", () -> {
            copied("forward", 0, 0, 0, 2, 4, "10 11 10 11 12 13", "20 21 22 23");
            copied("backward", 0, 2, 0, 0, 4, "12 13 14 15 14 15", "20 21 22 23");
            copied("by one forward", 0, 0, 0, 1, 5, "10 10 11 12 13 14", "20 21 22 23");
            copied("by one backward", 0, 1, 0, 0, 5, "11 12 13 14 15 15", "20 21 22 23");
            copied("on itself", 0, 0, 0, 0, 6, "10 11 12 13 14 15", "20 21 22 23");
        });
    }

    private static void plates() {
        String sentence = "BAD: no such SHEET, sort, n; -13; -11; -12: what stood ahead came.";
        test(32, sentence, "BAD: no such SHEET", () -> {
            int[] numbers = {-1, 4, MIN, MAX};
            for (int s : numbers) {
                refused(BoundariesTest::small, "plates(" + s + ", 0, 0, 1)", BAD, x -> x.plates(s, 0, 0, 1));
                refused(BoundariesTest::small, "plates(" + s + ", 0, 0, 0)", BAD, x -> x.plates(s, 0, 0, 0));
            }
        });
        test(32, sentence, "BAD: no such sort", () -> {
            int[] sorts = {-1, 3, -2, MIN, MAX};
            for (int sort : sorts) {
                refused(BoundariesTest::small, "plates(0, " + sort + ", 0, 1)", BAD, x -> x.plates(0, sort, 0, 1));
                refused(BoundariesTest::small, "plates(3, " + sort + ", 0, 1), ahead of -11", BAD, x -> x.plates(3, sort, 0, 1));
            }
        });
        test(32, "n of them (0 .. 8)", "BAD: too small, too large", () -> {
            int[] numbers = {-1, 9, MIN, MAX};
            for (int n : numbers) {
                refused(BoundariesTest::small, "plates(0, 0, 0, " + n + ")", BAD, x -> x.plates(0, 0, 0, n));
                refused(BoundariesTest::small, "plates(0, 1, 0, " + n + "), ahead of -13", BAD, x -> x.plates(0, 1, 0, n));
                refused(BoundariesTest::small, "plates(3, 1, 0, " + n + "), ahead of -11", BAD, x -> x.plates(3, 1, 0, n));
            }
        });
        test(32, "n of them (0 .. 8)", "none, and eight", () -> {
            GreaterPlates x = new GreaterPlates();
            x.sheet(0, 0, 16);
            due("none", x.plates(0, 0, 0, 0), 0);
            due("count(0)", x.count(0), 0);
            due("none at the end", x.plates(0, 0, 16, 0), 0);
            due("eight", x.plates(0, 0, 0, 8), 8);
            due("count(0)", x.count(0), 8);
        });
        test(32, "-13 a thing of another sort or KIND", "a SHEET of another sort", () -> {
            for (int sheet = 0; sheet < 3; sheet++) {
                for (int sort = 0; sort < 3; sort++) {
                    int s = sheet;
                    int o = sort;
                    if (s != o) {
                        refused(BoundariesTest::small, "plates(" + s + ", " + o + ", 0, 1)", OTHER_SORT, x -> x.plates(s, o, 0, 1));
                        refused(BoundariesTest::small, "plates(" + s + ", " + o + ", 0, 0)", OTHER_SORT, x -> x.plates(s, o, 0, 0));
                        refused(BoundariesTest::small, "plates(" + s + ", " + o + ", -1, 1), ahead of -12", OTHER_SORT,
                            x -> x.plates(s, o, -1, 1));
                    }
                }
            }
        });
        test(32, sentence, "-11: it is missing", () -> {
            for (int sort = 0; sort < 3; sort++) {
                int o = sort;
                refused(BoundariesTest::small, "plates(3, " + o + ", 0, 1)", NOTHING, x -> x.plates(3, o, 0, 1));
                refused(BoundariesTest::small, "plates(3, " + o + ", 0, 0)", NOTHING, x -> x.plates(3, o, 0, 0));
                refused(BoundariesTest::small, "plates(3, " + o + ", -1, 1), ahead of -12", NOTHING, x -> x.plates(3, o, -1, 1));
            }
        });
        test(32, sentence, "-12: from too small, too large", () -> {
            int[] places = {-1, -2, 2, 3, MIN, MIN + 1, MAX, MAX - 1};
            for (int from : places) {
                refused(BoundariesTest::small, "plates(1, 1, " + from + ", 1)", OUTSIDE, x -> x.plates(1, 1, from, 1));
                refused(BoundariesTest::small, "plates(1, 1, " + from + ", 8)", OUTSIDE, x -> x.plates(1, 1, from, 8));
            }
            refused(y -> y.sheet(0, 0, 0), "plates(0, 0, 0, 1) of an empty one", OUTSIDE, x -> x.plates(0, 0, 0, 1));
        });
        test(32, "-12: what stood ahead came.", "whole ones ahead of the end, half a one", () -> {
            GreaterPlates x = new GreaterPlates();
            fill(x, 0, 2, 1, 2, 3, 4, 5);
            due("half of the first", x.plates(0, 2, 4, 1), OUTSIDE);
            due("count(0)", x.count(0), 0);
            due("half of the third", x.plates(0, 2, 0, 3), OUTSIDE);
            due("count(0)", x.count(0), 2);
            due("told(1, 0)", x.told(1, 0), 3);
            due("told(1, 1)", x.told(1, 1), 4);
            due("just to the end", x.plates(0, 2, 1, 2), 2);
            due("told(3, 0)", x.told(3, 0), 4);
            due("told(3, 1)", x.told(3, 1), 5);
            due("past the end", x.plates(0, 2, 3, 2), OUTSIDE);
            due("count(0)", x.count(0), 5);
        });
        test(32, "how many came (others are left out)", "those that plate() would refuse", () -> {
            GreaterPlates x = new GreaterPlates();
            fill(x, 0, 2, 100, 0, 0, 100, -1, 0, 0, -1, 99, 0, 0, 99, MAX, MIN);
            due("two of seven", x.plates(0, 2, 0, 7), 2);
            due("count(0)", x.count(0), 2);
            due("told(0, 0)", x.told(0, 0), 99);
            due("told(1, 1)", x.told(1, 1), 99);
        });
        test(32, "how many came (others are left out)", "there is no room for more", () -> {
            GreaterPlates x = with(1, 2, 3, 4, 5, 6);
            fill(x, 0, 0, 7, 7, 8, 8, 9, 9, 10, 10);
            due("two of four", x.plates(0, 0, 0, 4), 2);
            due("count(0)", x.count(0), 8);
            due("told(7, 0)", x.told(7, 0), 8);
            due("none of four", x.plates(0, 0, 0, 4), 0);
            due("outside is so still", x.plates(0, 0, 0, 5), OUTSIDE);
            due("count(0)", x.count(0), 8);
        });
        test(32, "from one on, two by two (as of plate())", "the lowest bits are what stands there", () -> {
            GreaterPlates x = new GreaterPlates();
            fill(x, 0, 0, 256 + 5, -256 + 6);
            fill(x, 1, 1, 65536 + 7, -65536 + 8);
            due("bytes", x.plates(0, 0, 0, 1), 1);
            due("told(0, 0)", x.told(0, 0), 5);
            due("told(0, 1)", x.told(0, 1), 6);
            due("shorts", x.plates(1, 1, 0, 1), 1);
            due("told(1, 0)", x.told(1, 0), 7);
            due("told(1, 1)", x.told(1, 1), 8);
        });
    }

    private static void taken() {
        String sentence = "BAD: k; -11: no such LAYER; -13.";
        test(33, "A LAYER taken for one of KIND k (0 .. 5)", "BAD: k too small, too large", () -> {
            refused(BoundariesTest::small, "taken(0, -1)", BAD, x -> x.taken(0, -1));
            refused(BoundariesTest::small, "taken(0, 6)", BAD, x -> x.taken(0, 6));
            refused(BoundariesTest::small, "taken(0, MIN)", BAD, x -> x.taken(0, MIN));
            refused(BoundariesTest::small, "taken(0, MAX)", BAD, x -> x.taken(0, MAX));
        });
        test(33, sentence, "-11: no such LAYER", () -> {
            for (int kind = 0; kind <= 5; kind++) {
                int k = kind;
                refused(BoundariesTest::small, "taken(-1, " + k + ")", NOTHING, x -> x.taken(-1, k));
                refused(BoundariesTest::small, "taken(2, " + k + ")", NOTHING, x -> x.taken(2, k));
                refused(BoundariesTest::full, "taken(5, " + k + ")", NOTHING, x -> x.taken(5, k));
                refused(BoundariesTest::small, "taken(MAX, " + k + ")", NOTHING, x -> x.taken(MAX, k));
                refused(y -> { }, "taken(0, " + k + ") without LAYERS", NOTHING, x -> x.taken(0, k));
            }
        });
        test(33, "Refusals, the first that the call's words name", "BAD ahead of -11", () -> {
            refused(BoundariesTest::small, "taken(2, 6)", BAD, x -> x.taken(2, 6));
            refused(BoundariesTest::small, "taken(-1, -1)", BAD, x -> x.taken(-1, -1));
        });
        test(33, "or one under that one (also by others between): his NUMBER", "-13 of every other KIND", () -> {
            String[] under = {"0", "01", "02", "013", "024", "015"};
            for (int kind = 0; kind <= 5; kind++) {
                int of = kind;
                for (int k = 0; k <= 5; k++) {
                    int as = k;
                    int want = under[kind].indexOf('0' + k) >= 0 ? 9 - kind : OTHER_SORT;
                    refused(y -> y.layer(of, 9 - of), kind + " taken for " + k, want, x -> x.taken(0, as));
                }
            }
        });
    }

    // ---- all

    private static void manyCalls() {
        test(1, "An object is used for at most 512 calls after it has been made", "the 512th is answered as the first", () -> {
            GreaterPlates x = with(1, 2, 3, 4, 5, 6);
            x.layer(3, 0);
            long first = x.mean(0, 0);
            for (int call = 9; call < 512; call++) {
                due("call " + call, x.orders(0, 9), BAD);
            }
            due("call 512", x.mean(0, 0), first);
        });
        test(1, "An object is used for at most 512 calls after it has been made", "no call changes what stays behind", () -> {
            GreaterPlates x = with(8, 7, 6);
            x.layer(0, 0);
            for (int i = 0; i < 100; i++) {
                due("image()", x.image(), 0);
                due("lay(0)", x.lay(0), 0);
                due("take(0)", x.take(0), 0);
                due("back()", x.back(), 0);
            }
        });
    }
}
