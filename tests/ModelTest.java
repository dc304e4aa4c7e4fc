import java.util.ArrayList;
import java.util.Arrays;
import java.util.List;

/**
 * Long runs of calls, answered by the class and by a model that is slow and goes other ways:
 * it tries all layings without leaving any out, makes all orders one by one, puts plates into rows
 * by hand, finds a text's fault by a list of what is open, and tells its worth by splitting it.
 */
public final class ModelTest {
    private static final int RUNS = 250;
    private static final int CALLS = 300;
    private static final int TEXTS = 6000;

    public static void main(String[] args) {
        int wrong = 0;
        for (int run = 0; run < RUNS && wrong < 20; run++) {
            wrong += new Run(run).go();
        }
        for (int i = 0; i < TEXTS && wrong < 20; i++) {
            wrong += new Run(-1 - i).oneText() ? 0 : 1;
        }
        System.out.println(RUNS + " runs of " + CALLS + " calls, " + TEXTS + " texts, " + wrong + " not as due");
        if (wrong != 0) {
            System.exit(1);
        }
    }

    /** Numbers that are the same in each run of the test. */
    private static final class Dice {
        private long state;

        Dice(long seed) {
            state = seed * 7919 + 17;
        }

        int below(int n) {
            state = state * 6364136223846793005L + 1442695040888963407L;
            return (int) ((state >>> 33) % n);
        }

        /** Mostly from low to high, now and then outside. */
        int about(int low, int high) {
            int by = below(40);
            if (by == 0) {
                return low - 1 - below(2);
            }
            if (by == 1) {
                return high + 1 + below(2);
            }
            if (by == 2 && below(6) == 0) {
                return below(2) == 0 ? Integer.MAX_VALUE : Integer.MIN_VALUE;
            }
            return low + below(high - low + 1);
        }

        String of(String... all) {
            return all[below(all.length)];
        }
    }

    private static final class Run {
        private final int number;
        private final Dice dice;
        private final GreaterPlates x = new GreaterPlates();
        private final Model m = new Model();
        private final int spread;
        private String pending = "";

        Run(int number) {
            this.number = number;
            this.dice = new Dice(number);
            int[] spreads = {9, 99, 3, 20};
            this.spread = spreads[Math.floorMod(number, spreads.length)];
        }

        int go() {
            for (int call = 0; call < CALLS; call++) {
                if (!oneCall(call)) {
                    return 1;
                }
            }
            return 0;
        }

        /** A text alone, read and asked on a new object. */
        boolean oneText() {
            String text = new Writer(dice).text();
            for (int i = 0; i < text.length(); i++) {
                x.feed(text.charAt(i));
                m.feed(text.charAt(i));
            }
            boolean good = same("text() of " + text, x.text(), m.text());
            for (int i = 0; i < 3; i++) {
                int size = dice.below(100);
                int depth = dice.below(100);
                x.plate(size, depth);
                m.plate(size, depth);
            }
            x.layer(0, 0);
            m.layer(0, 0);
            good = good && same("force(1)", x.force(1), m.force(1));
            for (int i = 0; i < 3; i++) {
                good = good && same("told(" + i + ", 2) by " + text, x.told(i, 2), m.told(i, 2));
            }
            return good && same("by(0, 1) by " + text, x.by(0, 1), m.by(0, 1));
        }

        private boolean same(String call, long got, long want) {
            if (got != want) {
                System.out.println("run " + number + ": " + call + " answered " + got + ", the model " + want);
            }
            return got == want;
        }

        private boolean oneCall(int call) {
            if (!pending.isEmpty()) {
                int letter = pending.charAt(0);
                pending = pending.substring(1);
                boolean fed = same("feed(" + letter + ")", x.feed(letter), m.feed(letter));
                String tape = m.tape.toString();
                return fed && (!pending.isEmpty() || same("text() of " + tape, x.text(), m.text()) && forced());
            }
            int a = dice.about(0, Math.max(0, m.layers.size() - 1));
            int b = dice.about(0, 7);
            int kind = call < 12 ? dice.below(3) : dice.below(40);
            switch (kind) {
                case 0:
                    if (call > 40 && dice.below(3) != 0) {
                        return true;
                    }
                    int size = dice.about(0, spread);
                    int depth = dice.about(0, spread);
                    return same("plate", x.plate(size, depth), m.plate(size, depth));
                case 1:
                    int k = dice.about(0, 5);
                    int n = dice.about(0, 9);
                    return same("layer", x.layer(k, n), m.layer(k, n));
                case 2:
                    if (dice.below(3) == 0) {
                        pending = new Writer(dice).text();
                    }
                    return true;
                case 3:
                    int what = dice.about(0, 2);
                    int v = what == 2 ? dice.about(1, 9) : dice.about(0, spread);
                    return same("set", x.set(what, b, v), m.set(what, b, v));
                case 4: {
                    int w = dice.about(0, 4);
                    return same("told", x.told(b, w), m.told(b, w));
                }
                case 5:
                    int text = dice.about(0, m.texts.size() - 1);
                    return dice.below(3) == 0 || same("force", x.force(text), m.force(text));
                default:
                    return kind < 24 ? askedCall(kind, a, b) : tableCall(kind, a, b);
            }
        }

        private boolean forced() {
            int text = m.texts.size() - 1;
            return dice.below(4) == 0 || same("force(" + text + ")", x.force(text), m.force(text));
        }

        private boolean askedCall(int kind, int a, int b) {
            int what = dice.about(0, 1);
            int four = dice.about(0, 3);
            switch (kind) {
                case 6:
                case 7:
                    return same("by", x.by(a, what), m.by(a, what));
                case 8:
                    return same("heapOf", x.heapOf(a, b), m.heapOf(a, b));
                case 9:
                case 10:
                    return same("fewest(" + what + ")", x.fewest(what), m.fewest(what));
                case 11:
                case 12:
                    return same("longest(" + four + ")", x.longest(four), m.longest(four));
                case 13:
                    return same("several(" + four + ")", x.several(four), m.several(four));
                case 14: {
                    int h = dice.about(0, 8);
                    return same("orders", x.orders(a, h), m.orders(a, h));
                }
                case 15:
                    return same("mean", x.mean(a, what), m.mean(a, what));
                case 16:
                    return same("bestOrder", x.bestOrder(a, b), m.bestOrder(a, b));
                case 17:
                    return same("came", x.came(a), m.came(a));
                case 18:
                    return same("less(" + what + ")", x.less(what), m.less(what));
                case 19:
                    return same("rises", x.rises(what), m.rises(what));
                case 20:
                    return same("judge", x.judge(four), m.judge(four));
                case 21:
                    return same("stranger", x.stranger(four), m.stranger(four));
                case 22:
                    return tellHeaps(four, a);
                default:
                    int seed = dice.below(1 << 30) * (dice.below(2) * 2 - 1);
                    return same("drawn", x.drawn(a, seed), m.drawn(a, seed));
            }
        }

        /** A sheet of a layer's own heaps, mostly with a change. */
        private boolean tellHeaps(int sheet, int layer) {
            int n = m.count(0);
            int sort = dice.below(3);
            boolean good = same("sheet", x.sheet(sheet, sort, n), m.sheet(sheet, sort, n));
            for (int i = 0; i < n; i++) {
                int v = dice.below(9) == 0 ? dice.about(0, 3) : m.heapOf(layer, i);
                good = good && same("cell", x.cell(sheet, i, v), m.cell(sheet, i, v));
            }
            good = good && same("judge", x.judge(sheet), m.judge(sheet));
            return good && same("stranger", x.stranger(sheet), m.stranger(sheet));
        }

        private boolean tableCall(int kind, int a, int b) {
            switch (kind) {
                case 24:
                case 25:
                case 26:
                    return same("lay", x.lay(a), m.lay(a));
                case 27:
                case 28: {
                    int heap = dice.about(0, 2);
                    return same("take", x.take(heap), m.take(heap));
                }
                case 29:
                    return same("on", x.on(a, b), m.on(a, b));
                case 30:
                    return dice.below(3) != 0 || same("image", x.image(), m.image());
                case 31:
                    return dice.below(3) != 0 || same("back", x.back(), m.back());
                case 32:
                    return same("count(" + b + ")", x.count(b), m.count(b));
                default:
                    return hostCall(kind, a);
            }
        }

        private boolean hostCall(int kind, int a) {
            int sheet = dice.about(0, 3);
            int sort = dice.about(0, 2);
            int i = dice.about(0, 5);
            switch (kind) {
                case 33: {
                    int n = dice.below(9) == 0 ? dice.about(0, 40) : dice.about(0, 9);
                    return same("sheet", x.sheet(sheet, sort, n), m.sheet(sheet, sort, n));
                }
                case 34:
                case 35: {
                    int v = dice.below(5) == 0 ? dice.below(1 << 30) : dice.about(0, 9);
                    return same("cell", x.cell(sheet, i, v), m.cell(sheet, i, v));
                }
                case 36: {
                    int n = dice.about(0, 3);
                    int other = dice.about(0, 3);
                    int j = dice.about(0, 3);
                    return same("copy", x.copy(sheet, i, other, j, n), m.copy(sheet, i, other, j, n));
                }
                case 37: {
                    int n = dice.about(0, 2);
                    return same("plates", x.plates(sheet, sort, i, n), m.plates(sheet, sort, i, n));
                }
                default: {
                    int k = dice.about(0, 5);
                    return same("taken", x.taken(a, k), m.taken(a, k));
                }
            }
        }
    }

    /** Writes texts, half of them with a byte that is changed, left out or put in. */
    private static final class Writer {
        private final Dice dice;

        Writer(Dice dice) {
            this.dice = dice;
        }

        String text() {
            String may = dice.below(3) == 0 ? e(0) : dice.of("size<top", "size<top or deep<under", "size<top+high",
                "deep<under and not size=top", "top<size+9*heap", "size*high<top*2-heap");
            String text = "may " + may + ";pays " + e(1) + ";\nweighs " + e(1) + ";";
            if (dice.below(2) == 0 && text.length() <= 160) {
                return text;
            }
            int place = dice.below(text.length());
            String byteThere = dice.of("", ";", "(", ")", "-", "<", " ", "not ", "7", "12345", "x", "$", "or", "*", "\t");
            return text.substring(0, place) + byteThere + text.substring(place + dice.below(2));
        }

        private String e(int depth) {
            if (depth > 4) {
                return one();
            }
            switch (dice.below(11)) {
                case 0: return e(depth + 1) + " or " + e(depth + 1);
                case 1: return e(depth + 1) + " and " + e(depth + 1);
                case 2: return "not " + e(depth + 1);
                case 3: return "(" + e(depth + 1) + ")" + dice.of("<", "=", "+", "*") + one();
                case 4: return one() + dice.of("-", "+", "*", "<", "=") + one();
                case 5: return "-" + one() + dice.of("+", "-") + "(" + e(depth + 1) + ")";
                case 6: return "-(" + e(depth + 1) + ")";
                case 7: return one() + "*" + one() + "-" + one();
                default: return one();
            }
        }

        private String one() {
            return dice.of("size", "top", "deep", "under", "high", "heap", "0", "1", "7", "99", "-3", "9999*9999");
        }
    }

    private static final class Token {
        final String word;
        final int place;

        Token(String word, int place) {
            this.word = word;
            this.place = place;
        }

        boolean isName() {
            return "size top deep under high heap".contains(word) && word.matches("size|top|deep|under|high|heap");
        }

        boolean isOne() {
            return isName() || word.matches("[0-9]{1,4}");
        }
    }

    /** A text that has no fault, as tokens of its three parts. */
    private static final class Text {
        private final List<List<String>> parts = new ArrayList<>();

        static List<Token> tokens(String text) {
            List<Token> all = new ArrayList<>();
            java.util.regex.Matcher found = java.util.regex.Pattern.compile("[ \\n]+|[a-z]+|[0-9]+|(?s:.)").matcher(text);
            while (found.find()) {
                if (!found.group().matches("[ \\n]+")) {
                    all.add(new Token(found.group(), found.start()));
                }
            }
            all.add(new Token("", text.length()));
            return all;
        }

        /** Keeps a list of what is open: "(" , "not", "-" and, as "=", that a level has compared. */
        static int fault(String text) {
            List<Token> all = tokens(text);
            List<String> open = new ArrayList<>();
            String[] keys = {"may", "pays", "weighs"};
            int part = 0;
            String ahead = "key";
            for (Token t : all) {
                String w = t.word;
                if (ahead.equals("key")) {
                    if (part == 3 ? !w.isEmpty() : !w.equals(keys[part])) {
                        return t.place;
                    }
                    if (part == 3) {
                        return -1;
                    }
                    ahead = "start";
                } else if (!ahead.equals("one")) {
                    boolean opens = w.equals("(") || w.equals("-") || w.equals("not") && ahead.equals("start");
                    long many = open.stream().filter(o -> !o.equals("=")).count();
                    if (!t.isOne() && (!opens || many >= 5)) {
                        return t.place;
                    }
                    if (opens) {
                        open.add(w);
                        ahead = w.equals("-") ? "sum" : "start";
                    } else {
                        ahead = "one";
                        close(open, "-");
                    }
                } else if (w.equals("+") || w.equals("-") || w.equals("*")) {
                    ahead = "sum";
                } else if (w.equals("<") || w.equals("=")) {
                    if (!open.isEmpty() && open.get(open.size() - 1).equals("=")) {
                        return t.place;
                    }
                    open.add("=");
                    ahead = "sum";
                } else if (w.equals("or") || w.equals("and")) {
                    close(open, "=not");
                    ahead = "start";
                } else if (w.equals(")")) {
                    close(open, "=not");
                    if (open.isEmpty()) {
                        return t.place;
                    }
                    open.remove(open.size() - 1);
                    close(open, "-");
                } else if (w.equals(";")) {
                    close(open, "=not");
                    if (!open.isEmpty()) {
                        return t.place;
                    }
                    part++;
                    ahead = "key";
                } else {
                    return t.place;
                }
            }
            return text.length();
        }

        private static void close(List<String> open, String which) {
            while (!open.isEmpty() && which.contains(open.get(open.size() - 1))) {
                open.remove(open.size() - 1);
            }
        }

        Text(String text) {
            List<String> part = new ArrayList<>();
            for (Token t : tokens(text)) {
                if (t.word.equals(";")) {
                    parts.add(part.subList(1, part.size()));
                    part = new ArrayList<>();
                } else {
                    part.add(t.word);
                }
            }
        }

        int worth(int part, int[] names) {
            return worth(parts.get(part), names);
        }

        private static int worth(List<String> e, int[] names) {
            String[][] byStrength = {{"or"}, {"and"}};
            for (String[] signs : byStrength) {
                int at = lastOf(e, signs);
                if (at >= 0) {
                    int a = worth(e.subList(0, at), names);
                    int b = worth(e.subList(at + 1, e.size()), names);
                    return (signs[0].equals("or") ? a != 0 || b != 0 : a != 0 && b != 0) ? 1 : 0;
                }
            }
            if (e.get(0).equals("not")) {
                return worth(e.subList(1, e.size()), names) == 0 ? 1 : 0;
            }
            String[][] others = {{"<", "="}, {"+", "-"}, {"*"}};
            for (String[] signs : others) {
                int at = lastOf(e, signs);
                if (at >= 0) {
                    int a = worth(e.subList(0, at), names);
                    int b = worth(e.subList(at + 1, e.size()), names);
                    switch (e.get(at)) {
                        case "<": return a < b ? 1 : 0;
                        case "=": return a == b ? 1 : 0;
                        case "+": return a + b;
                        case "-": return a - b;
                        default: return a * b;
                    }
                }
            }
            if (e.get(0).equals("-")) {
                return -worth(e.subList(1, e.size()), names);
            }
            if (e.get(0).equals("(")) {
                return worth(e.subList(1, e.size() - 1), names);
            }
            int name = Arrays.asList("size", "top", "deep", "under", "high", "heap").indexOf(e.get(0));
            return name >= 0 ? names[name] : Integer.parseInt(e.get(0));
        }

        /** The last of some signs that stands behind a ONE and in no ( ). */
        private static int lastOf(List<String> e, String... signs) {
            int open = 0;
            for (int i = e.size() - 1; i > 0; i--) {
                String w = e.get(i);
                open += w.equals(")") ? 1 : w.equals("(") ? -1 : 0;
                String ahead = e.get(i - 1);
                boolean behindOne = ahead.equals(")") || new Token(ahead, 0).isOne();
                if (open == 0 && behindOne && Arrays.asList(signs).contains(w)) {
                    return i;
                }
            }
            return -1;
        }
    }

    /** The document once more; heaps are lists of plates' numbers. */
    private static final class Model {
        static final int BAD = -2, STATE = -3, FULL = -4;
        final List<int[]> plates = new ArrayList<>();
        final List<int[]> layers = new ArrayList<>();
        final List<Text> texts = new ArrayList<>();
        final StringBuilder tape = new StringBuilder();
        List<List<Integer>> heaps = new ArrayList<>();
        int laid = 0;
        int highest = 9;
        int rule = 0;
        List<List<Integer>> keptHeaps = null;
        int[] kept = null;
        final int[][] sheets = new int[4][];
        final int[] sorts = new int[4];

        Model() {
            texts.add(new Text("may size < top ; pays 1 - high ; weighs size ;"));
        }

        static boolean in(int v, int low, int high) {
            return v >= low && v <= high;
        }

        boolean isLayer(int layer) {
            return in(layer, 0, layers.size() - 1);
        }

        boolean isPlate(int plate) {
            return in(plate, 0, plates.size() - 1);
        }

        int plate(int size, int depth) {
            if (!in(size, 0, 99) || !in(depth, 0, 99)) {
                return BAD;
            }
            if (plates.size() == 8) {
                return FULL;
            }
            plates.add(new int[] {size, depth});
            return plates.size() - 1;
        }

        int layer(int kind, int number) {
            if (!in(kind, 0, 5) || !in(number, 0, 9)) {
                return BAD;
            }
            if (layers.size() == 5) {
                return FULL;
            }
            layers.add(new int[] {kind, number});
            return layers.size() - 1;
        }

        int set(int what, int of, int v) {
            int was;
            if (what == 2 && in(v, 1, 9)) {
                was = highest;
                highest = v;
                return was;
            }
            if (!in(what, 0, 1) || !isPlate(of) || !in(v, 0, 99)) {
                return BAD;
            }
            was = plates.get(of)[what];
            plates.get(of)[what] = v;
            return was;
        }

        int told(int of, int what) {
            if (in(what, 0, 2)) {
                return !isPlate(of) ? BAD : what < 2 ? plates.get(of)[what] : cut(tells(2, of, new ArrayList<>(), 0));
            }
            return in(what, 3, 4) && isLayer(of) ? layers.get(of)[what - 3] : BAD;
        }

        int feed(int letter) {
            if (!in(letter, 0, 255)) {
                return BAD;
            }
            if (tape.length() == 160) {
                return FULL;
            }
            tape.append((char) letter);
            return tape.length();
        }

        int text() {
            if (texts.size() == 6) {
                return FULL;
            }
            String text = tape.toString();
            tape.setLength(0);
            int fault = Text.fault(text);
            if (fault >= 0) {
                return -100 - fault;
            }
            texts.add(new Text(text));
            return texts.size() - 1;
        }

        int force(int text) {
            if (!in(text, 0, texts.size() - 1)) {
                return BAD;
            }
            int was = rule;
            rule = text;
            return was;
        }

        static int cut(int v) {
            return v < 0 ? 0 : v > 99 ? 99 : v;
        }

        int tells(int part, int plate, List<Integer> heap, int number) {
            int[] top = heap.isEmpty() ? new int[2] : plates.get(heap.get(heap.size() - 1));
            int[] own = plates.get(plate);
            return texts.get(rule).worth(part, new int[] {own[0], top[0], own[1], top[1], heap.size(), number});
        }

        boolean may(List<List<Integer>> all, int heap, int plate) {
            List<Integer> h = all.get(heap);
            return h.isEmpty() || h.size() < highest && tells(0, plate, h, heap) != 0;
        }

        int rank(int layer, List<List<Integer>> all, int heap, int plate) {
            List<Integer> h = all.get(heap);
            if (h.isEmpty()) {
                return 1000;
            }
            int t = plates.get(h.get(h.size() - 1))[0];
            int number = layers.get(layer)[1];
            int near = Math.abs(t - plates.get(plate)[0]) + number;
            int[] ranks = {t, near, heap, near + 10 * h.size(), (heap + number) % 4, 100 - near};
            return ranks[layers.get(layer)[0]];
        }

        int choose(int layer, List<List<Integer>> all, int plate) {
            int r = Integer.MAX_VALUE;
            for (int i = 0; i < all.size(); i++) {
                r = may(all, i, plate) ? Math.min(r, rank(layer, all, i, plate)) : r;
            }
            int m = all.size();
            int kind = layers.get(layer)[0];
            boolean told = kind == 4 && m < layers.get(layer)[1] % 3;
            boolean near = (kind == 1 || kind == 3 || kind == 5) && r > 50;
            if (r == Integer.MAX_VALUE || told || near || kind == 5 && m == 1) {
                return m;
            }
            int i = 0;
            while (!may(all, i, plate) || rank(layer, all, i, plate) != r) {
                i++;
            }
            return i;
        }

        /** Heaps and, behind them, a list of one: what was paid. */
        List<List<Integer>> layAll(int layer, List<Integer> order) {
            List<List<Integer>> all = new ArrayList<>();
            int paid = 0;
            for (int plate : order) {
                int heap = choose(layer, all, plate);
                if (heap == all.size()) {
                    all.add(new ArrayList<>());
                }
                paid += cut(tells(1, plate, all.get(heap), heap));
                all.get(heap).add(plate);
            }
            all.add(List.of(paid));
            return all;
        }

        List<Integer> now() {
            List<Integer> order = new ArrayList<>();
            for (int i = 0; i < plates.size(); i++) {
                order.add(i);
            }
            return order;
        }

        int by(int layer, int what) {
            if (!isLayer(layer) || !in(what, 0, 1)) {
                return BAD;
            }
            List<List<Integer>> all = layAll(layer, now());
            return what == 0 ? all.size() - 1 : all.get(all.size() - 1).get(0);
        }

        int heapOf(int layer, int plate) {
            if (!isLayer(layer) || !isPlate(plate)) {
                return BAD;
            }
            List<List<Integer>> all = layAll(layer, now());
            for (int i = 0; i + 1 < all.size(); i++) {
                if (all.get(i).contains(plate)) {
                    return i;
                }
            }
            throw new IllegalStateException("a plate that is on no heap");
        }

        int fewest(int what) {
            return in(what, 0, 1) ? leastWay(what, now(), 0, new ArrayList<>(), 0) : BAD;
        }

        int leastWay(int what, List<Integer> order, int place, List<List<Integer>> all, int paid) {
            if (place == order.size()) {
                return what == 0 ? all.size() : paid;
            }
            int plate = order.get(place);
            int best = Integer.MAX_VALUE;
            for (int i = 0; i < all.size(); i++) {
                if (may(all, i, plate)) {
                    int price = what == 0 ? 0 : cut(tells(1, plate, all.get(i), i));
                    all.get(i).add(plate);
                    best = Math.min(best, leastWay(what, order, place + 1, all, paid + price));
                    all.get(i).remove(all.get(i).size() - 1);
                }
            }
            int price = what == 0 ? 0 : cut(tells(1, plate, new ArrayList<>(), all.size()));
            all.add(new ArrayList<>(List.of(plate)));
            best = Math.min(best, leastWay(what, order, place + 1, all, paid + price));
            all.remove(all.size() - 1);
            return best;
        }

        boolean follows(int plate, int ahead) {
            return tells(0, plate, List.of(ahead), 0) == 0;
        }

        void rowsFrom(List<Integer> row, List<Integer> found) {
            int bits = 0;
            for (int plate : row) {
                bits |= 1 << plate;
            }
            if (bits != 0) {
                found.add(bits);
            }
            int last = row.isEmpty() ? -1 : row.get(row.size() - 1);
            for (int next = last + 1; next < plates.size(); next++) {
                if (last < 0 || follows(next, last)) {
                    List<Integer> longer = new ArrayList<>(row);
                    longer.add(next);
                    rowsFrom(longer, found);
                }
            }
        }

        int longest(int what) {
            if (!in(what, 0, 3)) {
                return BAD;
            }
            List<Integer> found = new ArrayList<>();
            rowsFrom(new ArrayList<>(), found);
            int most = found.stream().mapToInt(Integer::bitCount).max().orElse(0);
            found.removeIf(row -> Integer.bitCount(row) < most);
            int[] answers = {most, found.size(), found.stream().reduce((a, b) -> a & b).orElse(0),
                found.stream().min(Integer::compare).orElse(0)};
            return answers[what];
        }

        int several(int k) {
            boolean[][] could = new boolean[8][8];
            for (int i = 0; i < plates.size(); i++) {
                for (int j = 0; j < i; j++) {
                    could[i][j] = follows(i, j);
                }
            }
            return in(k, 1, 3) ? intoRows(0, new int[] {-1, -1, -1}, k, could) : BAD;
        }

        int intoRows(int plate, int[] lasts, int k, boolean[][] could) {
            if (plate == plates.size()) {
                return 0;
            }
            int best = intoRows(plate + 1, lasts, k, could);
            for (int i = 0; i < k; i++) {
                int was = lasts[i];
                if (was < 0 || could[plate][was]) {
                    lasts[i] = plate;
                    best = Math.max(best, 1 + intoRows(plate + 1, lasts, k, could));
                    lasts[i] = was;
                }
            }
            return best;
        }

        List<List<Integer>> allOrders(List<Integer> rest) {
            List<List<Integer>> all = new ArrayList<>();
            if (rest.isEmpty()) {
                all.add(new ArrayList<>());
            }
            for (Integer first : rest) {
                List<Integer> others = new ArrayList<>(rest);
                others.remove(first);
                for (List<Integer> order : allOrders(others)) {
                    order.add(0, first);
                    all.add(order);
                }
            }
            return all;
        }

        int orders(int layer, int h) {
            if (!isLayer(layer) || !in(h, 0, 8)) {
                return BAD;
            }
            if (plates.size() > 6) {
                return STATE;
            }
            return (int) allOrders(now()).stream().filter(o -> layAll(layer, o).size() - 1 == h).count();
        }

        long mean(int layer, int part) {
            if (!isLayer(layer) || !in(part, 0, 1) || plates.size() > 6) {
                return -4611686018427387904L;
            }
            long sum = 0;
            long n = 0;
            for (List<Integer> order : allOrders(now())) {
                sum += layAll(layer, order).size() - 1;
                n++;
            }
            for (long d = n; d > 1; d--) {
                if (sum % d == 0 && n % d == 0) {
                    return (part == 0 ? sum : n) / d;
                }
            }
            return part == 0 ? sum : n;
        }

        int bestOrder(int layer, int place) {
            if (!isLayer(layer) || !isPlate(place)) {
                return BAD;
            }
            if (plates.size() > 6) {
                return STATE;
            }
            List<Integer> best = null;
            for (List<Integer> order : allOrders(now())) {
                if (best == null || layAll(layer, order).size() < layAll(layer, best).size()) {
                    best = order;
                }
            }
            return best.get(place);
        }

        String lies(List<List<Integer>> all) {
            Integer[] under = new Integer[8];
            for (List<Integer> heap : all.subList(0, all.size() - 1)) {
                for (int i = 0; i < heap.size(); i++) {
                    under[heap.get(i)] = i == 0 ? -1 : heap.get(i - 1);
                }
            }
            return Arrays.toString(under);
        }

        int came(int layer) {
            if (!isLayer(layer)) {
                return BAD;
            }
            if (plates.size() > 6) {
                return STATE;
            }
            String now = lies(layAll(layer, now()));
            return (int) allOrders(now()).stream().filter(o -> lies(layAll(layer, o)).equals(now)).count();
        }

        int less(int what) {
            if (!in(what, 0, 1)) {
                return BAD;
            }
            int whole = fewest(0);
            for (int i = 0; i < plates.size() - what; i++) {
                List<Integer> order = now();
                Integer one = order.remove(i);
                if (what == 1) {
                    order.add(i + 1, one);
                }
                if (leastWay(0, order, 0, new ArrayList<>(), 0) < whole) {
                    return i;
                }
            }
            return -1;
        }

        int rises(int what) {
            if (!in(what, 0, 1)) {
                return BAD;
            }
            int most = 0;
            for (int set = 0; set < 1 << plates.size(); set++) {
                int last = -1;
                boolean good = true;
                for (int i = 0; i < plates.size(); i++) {
                    if ((set & 1 << i) != 0) {
                        int step = last < 0 ? 0 : plates.get(i)[0] - plates.get(last)[0];
                        good &= last < 0 || (what == 0 ? step > 0 : step < 0);
                        last = i;
                    }
                }
                most = good ? Math.max(most, Integer.bitCount(set)) : most;
            }
            return most;
        }

        int judge(int sheet) {
            if (!in(sheet, 0, 3)) {
                return BAD;
            }
            if (sheets[sheet] == null) {
                return -11;
            }
            List<List<Integer>> all = new ArrayList<>();
            for (int i = 0; i < sheets[sheet].length; i++) {
                int heap = sheets[sheet][i];
                if (!isPlate(i) || !in(heap, 0, all.size()) || heap < all.size() && !may(all, heap, i)) {
                    return i;
                }
                if (heap == all.size()) {
                    all.add(new ArrayList<>());
                }
                all.get(heap).add(i);
            }
            return -1;
        }

        int stranger(int sheet) {
            if (!in(sheet, 0, 3)) {
                return BAD;
            }
            if (sheets[sheet] == null) {
                return -11;
            }
            if (sheets[sheet].length != plates.size()) {
                return BAD;
            }
            int who = 0;
            for (int layer = 0; layer < layers.size(); layer++) {
                boolean so = true;
                for (int i = 0; i < plates.size(); i++) {
                    so &= heapOf(layer, i) == sheets[sheet][i];
                }
                who |= so ? 1 << layer : 0;
            }
            return who;
        }

        int lay(int layer) {
            if (!isLayer(layer)) {
                return BAD;
            }
            if (laid == plates.size()) {
                return STATE;
            }
            int heap = choose(layer, heaps, laid);
            if (heap == heaps.size()) {
                heaps.add(new ArrayList<>());
            }
            heaps.get(heap).add(laid);
            laid++;
            return heap;
        }

        int take(int heap) {
            if (!in(heap, 0, heaps.size() - 1)) {
                return BAD;
            }
            List<Integer> h = heaps.get(heap);
            return h.isEmpty() ? STATE : h.remove(h.size() - 1);
        }

        int on(int heap, int height) {
            if (!in(heap, 0, heaps.size() - 1)) {
                return BAD;
            }
            return in(height, 0, heaps.get(heap).size() - 1) ? heaps.get(heap).get(height) : -1;
        }

        int drawn(int layer, int seed) {
            if (!isLayer(layer)) {
                return BAD;
            }
            List<Integer> order = now();
            int z = seed;
            for (int i = 0; i <= order.size() - 2; i++) {
                z = z * 1103515245 + 12345;
                java.util.Collections.swap(order, i, i + (z >>> 9) % (order.size() - i));
            }
            return layAll(layer, order).size() - 1;
        }

        static List<List<Integer>> like(List<List<Integer>> heaps) {
            List<List<Integer>> all = new ArrayList<>();
            for (List<Integer> heap : heaps) {
                all.add(new ArrayList<>(heap));
            }
            return all;
        }

        int image() {
            keptHeaps = like(heaps);
            kept = new int[] {laid, highest, rule};
            return laid;
        }

        int back() {
            if (kept == null) {
                return STATE;
            }
            heaps = like(keptHeaps);
            laid = kept[0];
            highest = kept[1];
            rule = kept[2];
            return laid;
        }

        int count(int what) {
            int[] all = {plates.size(), layers.size(), laid, heaps.size(), highest, texts.size(), tape.length(), rule};
            return in(what, 0, 7) ? all[what] : BAD;
        }

        int sheet(int sheet, int sort, int n) {
            if (!in(sheet, 0, 3) || !in(sort, -1, 2) || sort >= 0 && n > 40) {
                return BAD;
            }
            if (sort >= 0 && n < 0) {
                return -14;
            }
            sheets[sheet] = sort < 0 ? null : new int[n];
            sorts[sheet] = sort;
            return 1;
        }

        int cell(int sheet, int i, int v) {
            if (!in(sheet, 0, 3)) {
                return BAD;
            }
            if (sheets[sheet] == null) {
                return -11;
            }
            if (!in(i, 0, sheets[sheet].length - 1)) {
                return -12;
            }
            sheets[sheet][i] = sorts[sheet] == 0 ? v & 255 : sorts[sheet] == 1 ? v & 65535 : v;
            return 1;
        }

        int copy(int sheet, int i, int other, int j, int n) {
            if (!in(sheet, 0, 3) || !in(other, 0, 3)) {
                return BAD;
            }
            if (sheets[sheet] == null || sheets[other] == null) {
                return -11;
            }
            if (sorts[sheet] != sorts[other]) {
                return -13;
            }
            boolean outside = n < 0 || i < 0 || j < 0;
            if (outside || (long) i + n > sheets[sheet].length || (long) j + n > sheets[other].length) {
                return -12;
            }
            int[] as = sheets[sheet].clone();
            for (int k = 0; k < n; k++) {
                sheets[other][j + k] = as[i + k];
            }
            return n;
        }

        int plates(int sheet, int sort, int from, int n) {
            if (!in(sheet, 0, 3) || !in(sort, 0, 2) || !in(n, 0, 8)) {
                return BAD;
            }
            if (sheets[sheet] == null) {
                return -11;
            }
            if (sorts[sheet] != sort) {
                return -13;
            }
            int came = 0;
            for (long at = from; at < (long) from + 2 * n; at += 2) {
                if (at < 0 || at + 1 >= sheets[sheet].length) {
                    return -12;
                }
                came += plate(sheets[sheet][(int) at], sheets[sheet][(int) at + 1]) >= 0 ? 1 : 0;
            }
            return came;
        }

        int taken(int layer, int k) {
            if (!in(k, 0, 5)) {
                return BAD;
            }
            if (!isLayer(layer)) {
                return -11;
            }
            int[] above = {-1, 0, 0, 1, 2, 1};
            for (int kind = layers.get(layer)[0]; kind >= 0; kind = above[kind]) {
                if (kind == k) {
                    return layers.get(layer)[1];
                }
            }
            return -13;
        }
    }
}
