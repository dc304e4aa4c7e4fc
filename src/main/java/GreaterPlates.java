import java.util.Arrays;

/**
 * Plates that come one after another and are laid, each on a heap whose top one is greater.
 * The words in capitals are those of the document. Nothing is made in a call but what it keeps:
 * all that is only needed for the time of a call has its room from the constructor on.
 */
public final class GreaterPlates {
    public static final int NONE = -1, BAD = -2, STATE = -3, FULL = -4;
    public static final long NO = -4611686018427387904L;

    private static final int NOTHING = -11, OUTSIDE = -12, OTHER_SORT = -13, BELOW_ZERO = -14;
    private static final int FIRST_FAULT = -100;

    private static final int MOST_PLATES = 8, MOST_LAYERS = 5, MOST_TEXTS = 6, MOST_BYTES = 160;
    private static final int MOST_SHEETS = 4, MOST_ITEMS = 40, MOST_ROWS = 3, MOST_OPEN = 5;
    private static final int MOST_IN_ORDERS = 6;
    private static final int MOST_SIZE = 99, MOST_NUMBER = 9, MOST_HIGH = 9;
    private static final int LAST_KIND = 5, LAST_SORT = 2;
    private static final int EMPTY_RANK = 1000;
    /** More than any laying has heaps or pays. */
    private static final int BEYOND = MOST_PLATES * MOST_SIZE + 1;

    private static final String FIRST_TEXT = "may size < top ; pays 1 - high ; weighs size ;";
    /** The parts of a TEXT. */
    private static final int MAY = 0, PAYS = 1, WEIGHS = 2;

    private final int[] sizes = new int[MOST_PLATES];
    private final int[] depths = new int[MOST_PLATES];
    private int plateCount;
    private final Layer[] layers = new Layer[MOST_LAYERS];
    private int layerCount;
    private final Rule[] texts = new Rule[MOST_TEXTS];
    private int textCount;
    private final Reader reader = new Reader();
    private final Table now = new Table();
    /** THE IMAGE; null while there is none. */
    private Table kept;
    private final Sheet[] sheets = new Sheet[MOST_SHEETS];

    /** Heaps for layings that are only thought of. */
    private final Heaps work = new Heaps();
    /** The order in which the plates of such a laying come. */
    private final int[] order = new int[MOST_PLATES];
    /** The least that a search has found so far. */
    private int least;
    /** Of all ORDERS: the best one, how many of each number of heaps, how many that came alike. */
    private final int[] bestFound = new int[MOST_PLATES];
    private final int[] tally = new int[MOST_PLATES + 1];
    private int alike;
    private final int[] beneathNow = new int[MOST_PLATES];
    /** Of each set of plates (bits): how few ROWS that share none make it up. */
    private final int[] cover = new int[1 << MOST_PLATES];

    public GreaterPlates() {
        for (int i = 0; i < MOST_SHEETS; i++) {
            sheets[i] = new Sheet();
        }
        for (int i = 0; i < FIRST_TEXT.length(); i++) {
            reader.append(FIRST_TEXT.charAt(i));
        }
        texts[0] = reader.read();
        textCount = 1;
        reader.size = 0;
    }

    // ---- plates, layers

    public int plate(int size, int depth) {
        if (!isMeasure(size) || !isMeasure(depth)) {
            return BAD;
        }
        if (plateCount >= MOST_PLATES) {
            return FULL;
        }
        sizes[plateCount] = size;
        depths[plateCount] = depth;
        plateCount++;
        return plateCount - 1;
    }

    public int layer(int kind, int number) {
        if (kind < 0 || kind > LAST_KIND || number < 0 || number > MOST_NUMBER) {
            return BAD;
        }
        if (layerCount >= MOST_LAYERS) {
            return FULL;
        }
        layers[layerCount] = newLayer(kind, number);
        layerCount++;
        return layerCount - 1;
    }

    public int set(int what, int of, int v) {
        if (what == 2) {
            return setHighest(v);
        }
        if (what < 0 || what > 1 || !isPlate(of) || !isMeasure(v)) {
            return BAD;
        }
        int[] row = what == 0 ? sizes : depths;
        int was = row[of];
        row[of] = v;
        return was;
    }

    private int setHighest(int v) {
        if (v < 1 || v > MOST_HIGH) {
            return BAD;
        }
        int was = now.highest;
        now.highest = v;
        return was;
    }

    public int told(int of, int what) {
        if (what == 3 || what == 4) {
            Layer asked = layerAt(of);
            if (asked == null) {
                return BAD;
            }
            return what == 3 ? asked.kind : asked.number;
        }
        if (what < 0 || what > 4 || !isPlate(of)) {
            return BAD;
        }
        if (what == 2) {
            return bounded(worth(WEIGHS, of, NONE, 0, 0));
        }
        return what == 0 ? sizes[of] : depths[of];
    }

    private boolean isPlate(int plate) {
        return plate >= 0 && plate < plateCount;
    }

    private static boolean isMeasure(int v) {
        return v >= 0 && v <= MOST_SIZE;
    }

    private Layer layerAt(int number) {
        return number >= 0 && number < layerCount ? layers[number] : null;
    }

    private static Layer newLayer(int kind, int number) {
        switch (kind) {
            case 1: return new Near(kind, number);
            case 2: return new Free(kind, number);
            case 3: return new High(kind, number);
            case 4: return new Told(kind, number);
            case 5: return new Sulky(kind, number);
            default: return new Layer(kind, number);
        }
    }

    // ---- texts

    public int feed(int letter) {
        if (letter < 0 || letter > 255) {
            return BAD;
        }
        if (!reader.append(letter)) {
            return FULL;
        }
        return reader.size;
    }

    public int text() {
        if (textCount >= MOST_TEXTS) {
            return FULL;
        }
        Rule made = reader.read();
        reader.size = 0;
        if (made == null) {
            return FIRST_FAULT - reader.fault;
        }
        texts[textCount] = made;
        textCount++;
        return textCount - 1;
    }

    public int force(int text) {
        if (text < 0 || text >= textCount) {
            return BAD;
        }
        int was = now.rule;
        now.rule = text;
        return was;
    }

    /** What a part of THE RULE tells of a plate and a heap; top is NONE where nothing lies. */
    private int worth(int part, int plate, int top, int high, int heap) {
        Rule rule = now.rule >= 0 && now.rule < textCount ? texts[now.rule] : null;
        if (rule == null || !isPlate(plate)) {
            return 0;
        }
        boolean bare = !isPlate(top);
        int topSize = bare ? 0 : sizes[top];
        int topDepth = bare ? 0 : depths[top];
        rule.about(sizes[plate], topSize, depths[plate], topDepth, high, heap);
        return rule.value(part);
    }

    private static int bounded(int v) {
        return Math.max(0, Math.min(MOST_SIZE, v));
    }

    // ---- laying

    public int by(int layer, int what) {
        Layer who = layerAt(layer);
        if (who == null || what < 0 || what > 1) {
            return BAD;
        }
        orderOfNow();
        int paid = layInOrder(who, plateCount);
        return what == 0 ? work.many : paid;
    }

    public int heapOf(int layer, int plate) {
        Layer who = layerAt(layer);
        if (who == null || !isPlate(plate)) {
            return BAD;
        }
        orderOfNow();
        layInOrder(who, plateCount);
        return work.whereIs[plate];
    }

    public int fewest(int what) {
        if (what < 0 || what > 1) {
            return BAD;
        }
        orderOfNow();
        return leastOf(what, plateCount, BEYOND);
    }

    public int longest(int what) {
        if (what < 0 || what > 3) {
            return BAD;
        }
        fillCover();
        int most = 0;
        int many = 0;
        int inAll = 0;
        int first = 0;
        for (int set = 1; set < 1 << plateCount; set++) {
            int length = Integer.bitCount(set);
            if (cover[set] != 1 || length < most) {
                continue;
            }
            boolean longer = length > most;
            most = length;
            many = longer ? 1 : many + 1;
            inAll = longer ? set : inAll & set;
            first = longer ? set : first;
        }
        switch (what) {
            case 0: return most;
            case 1: return many;
            case 2: return inAll;
            default: return first;
        }
    }

    public int several(int k) {
        if (k < 1 || k > MOST_ROWS) {
            return BAD;
        }
        fillCover();
        int most = 0;
        for (int set = 0; set < 1 << plateCount; set++) {
            if (cover[set] <= k) {
                most = Math.max(most, Integer.bitCount(set));
            }
        }
        return most;
    }

    private void orderOfNow() {
        for (int i = 0; i < plateCount; i++) {
            order[i] = i;
        }
    }

    /** Lays the first n of the order on no heaps; the heaps stay in work: pays of all. */
    private int layInOrder(Layer who, int n) {
        int paid = 0;
        work.clear();
        for (int i = 0; i < n; i++) {
            int heap = chosenBy(who, work, order[i]);
            paid += priceOf(PAYS, heap, order[i]);
            work.put(heap, order[i]);
        }
        return paid;
    }

    /** The heap on which he lays it: the number of how many there are is a new one. */
    private int chosenBy(Layer who, Heaps heaps, int plate) {
        int chosen = NONE;
        int leastRank = 0;
        for (int heap = 0; heap < heaps.many; heap++) {
            if (!mayLie(heaps, heap, plate)) {
                continue;
            }
            int rank = rankOf(who, heaps, heap, plate);
            if (chosen == NONE || rank < leastRank) {
                chosen = heap;
                leastRank = rank;
            }
        }
        if (chosen == NONE || who.likes(leastRank, heaps.many)) {
            return heaps.many;
        }
        return chosen;
    }

    private int rankOf(Layer who, Heaps heaps, int heap, int plate) {
        int top = heaps.topOf(heap);
        if (!isPlate(top) || !isPlate(plate)) {
            return EMPTY_RANK;
        }
        return who.rank(heap, sizes[top], sizes[plate], heaps.heightOf(heap));
    }

    private boolean mayLie(Heaps heaps, int heap, int plate) {
        if (!heaps.has(heap)) {
            return false;
        }
        int high = heaps.heightOf(heap);
        if (high == 0) {
            return true;
        }
        return high < now.highest && worth(MAY, plate, heaps.topOf(heap), high, heap) != 0;
    }

    /** What it costs in work to lay a plate on a heap: pays, or else 1 for each new heap. */
    private int priceOf(int what, int heap, int plate) {
        if (what == PAYS) {
            return bounded(worth(PAYS, plate, work.topOf(heap), work.heightOf(heap), heap));
        }
        return heap == work.many ? 1 : 0;
    }

    /** FEWEST (what 0), CHEAPEST (1) of the first n of the order; the bound, if it isn't below. */
    private int leastOf(int what, int n, int bound) {
        work.clear();
        least = bound;
        seekLess(what, 0, n, 0);
        return least;
    }

    /** No price is below 0, so a way that costs as much as the least one is not followed. */
    private void seekLess(int what, int place, int n, int spent) {
        if (spent >= least) {
            return;
        }
        if (place >= n || place >= MOST_PLATES) {
            least = spent;
            return;
        }
        int plate = order[place];
        int many = work.many;
        for (int heap = 0; heap <= many; heap++) {
            if (heap == many || mayLie(work, heap, plate)) {
                int price = priceOf(what, heap, plate);
                work.put(heap, plate);
                seekLess(what, place + 1, n, spent + price);
                work.undo(heap);
            }
        }
    }

    private void fillCover() {
        cover[0] = 0;
        for (int set = 1; set < 1 << plateCount; set++) {
            cover[set] = isRow(set) ? 1 : rowsThatMake(set);
        }
    }

    /** Asks cover of lesser sets. */
    private boolean isRow(int set) {
        int last = lastOf(set);
        int rest = set & ~(1 << last);
        if (rest == 0) {
            return true;
        }
        return cover[rest] == 1 && worth(MAY, last, lastOf(rest), 1, 0) == 0;
    }

    /** Asks cover of lesser sets; one of the rows has the first plate, so only that is tried. */
    private int rowsThatMake(int set) {
        int first = set & -set;
        int fewestRows = MOST_PLATES;
        for (int part = (set - 1) & set; part > 0; part = (part - 1) & set) {
            if ((part & first) != 0 && cover[part] == 1) {
                fewestRows = Math.min(fewestRows, 1 + cover[set & ~part]);
            }
        }
        return fewestRows;
    }

    private static int lastOf(int set) {
        for (int plate = MOST_PLATES - 1; plate > 0; plate--) {
            if ((set >> plate & 1) != 0) {
                return plate;
            }
        }
        return 0;
    }

    // ---- orders

    public int orders(int layer, int h) {
        Layer who = layerAt(layer);
        if (who == null || h < 0 || h > MOST_PLATES) {
            return BAD;
        }
        if (plateCount > MOST_IN_ORDERS) {
            return STATE;
        }
        goThroughOrders(who);
        return tally[h];
    }

    public long mean(int layer, int part) {
        Layer who = layerAt(layer);
        if (who == null || part < 0 || part > 1 || plateCount > MOST_IN_ORDERS) {
            return NO;
        }
        goThroughOrders(who);
        long above = 0;
        long below = 0;
        for (int h = 0; h <= MOST_PLATES; h++) {
            above += (long) h * tally[h];
            below += tally[h];
        }
        long shared = Math.max(1, sharedDivisor(above, below));
        return (part == 0 ? above : below) / shared;
    }

    public int bestOrder(int layer, int place) {
        Layer who = layerAt(layer);
        if (who == null || !isPlate(place)) {
            return BAD;
        }
        if (plateCount > MOST_IN_ORDERS) {
            return STATE;
        }
        goThroughOrders(who);
        return bestFound[place];
    }

    public int came(int layer) {
        Layer who = layerAt(layer);
        if (who == null) {
            return BAD;
        }
        if (plateCount > MOST_IN_ORDERS) {
            return STATE;
        }
        goThroughOrders(who);
        return alike;
    }

    public int less(int what) {
        if (what < 0 || what > 1) {
            return BAD;
        }
        orderOfNow();
        int whole = leastOf(0, plateCount, BEYOND);
        return what == 0 ? firstOut(whole) : firstSwap(whole);
    }

    public int rises(int what) {
        if (what < 0 || what > 1) {
            return BAD;
        }
        return riseBehind(NONE, what);
    }

    public int judge(int sheet) {
        Sheet asked = sheetAt(sheet);
        if (asked == null) {
            return BAD;
        }
        if (asked.isMissing()) {
            return NOTHING;
        }
        work.clear();
        for (int i = 0; i < asked.size; i++) {
            int heap = asked.items[i];
            boolean lawful = isPlate(i) && (heap == work.many || mayLie(work, heap, i));
            if (!lawful) {
                return i;
            }
            work.put(heap, i);
        }
        return NONE;
    }

    public int stranger(int sheet) {
        Sheet asked = sheetAt(sheet);
        if (asked == null) {
            return BAD;
        }
        if (asked.isMissing()) {
            return NOTHING;
        }
        if (asked.size != plateCount) {
            return BAD;
        }
        int who = 0;
        for (int i = 0; i < layerCount; i++) {
            if (laysJustSo(layerAt(i), asked)) {
                who |= 1 << i;
            }
        }
        return who;
    }

    private boolean laysJustSo(Layer who, Sheet asked) {
        if (who == null) {
            return false;
        }
        orderOfNow();
        layInOrder(who, plateCount);
        for (int plate = 0; plate < plateCount; plate++) {
            if (work.whereIs[plate] != asked.items[plate]) {
                return false;
            }
        }
        return true;
    }

    private void goThroughOrders(Layer who) {
        orderOfNow();
        layInOrder(who, plateCount);
        System.arraycopy(work.beneath, 0, beneathNow, 0, plateCount);
        Arrays.fill(tally, 0);
        alike = 0;
        least = BEYOND;
        work.clear();
        goOn(who, 0, 0);
    }

    /** Orders that begin alike share the laying of what they begin with. */
    private void goOn(Layer who, int place, int used) {
        if (place >= plateCount || place >= MOST_PLATES) {
            noteOrder();
            return;
        }
        for (int plate = 0; plate < plateCount; plate++) {
            if ((used >> plate & 1) != 0) {
                continue;
            }
            int heap = chosenBy(who, work, plate);
            order[place] = plate;
            work.put(heap, plate);
            goOn(who, place + 1, used | 1 << plate);
            work.undo(heap);
        }
    }

    /** Orders come by numbers, so only one with fewer heaps is better than one ahead of it. */
    private void noteOrder() {
        int many = Math.max(0, Math.min(MOST_PLATES, work.many));
        tally[many]++;
        if (many < least) {
            least = many;
            System.arraycopy(order, 0, bestFound, 0, plateCount);
        }
        boolean same = true;
        for (int plate = 0; plate < plateCount; plate++) {
            same = same && work.beneath[plate] == beneathNow[plate];
        }
        if (same) {
            alike++;
        }
    }

    /** The remainders of two ints' worth fall to 0 within some fifty steps. */
    private static long sharedDivisor(long a, long b) {
        for (int i = 0; i < 100 && b != 0; i++) {
            long rest = a % b;
            a = b;
            b = rest;
        }
        return a;
    }

    private int firstOut(int whole) {
        for (int out = 0; out < plateCount; out++) {
            orderOfNow();
            for (int i = out; i + 1 < plateCount; i++) {
                order[i] = i + 1;
            }
            if (leastOf(0, plateCount - 1, whole) < whole) {
                return out;
            }
        }
        return NONE;
    }

    private int firstSwap(int whole) {
        for (int i = 0; i + 1 < plateCount; i++) {
            orderOfNow();
            changeAbout(i, i + 1);
            if (leastOf(0, plateCount, whole) < whole) {
                return i;
            }
        }
        return NONE;
    }

    private void changeAbout(int i, int j) {
        if (isPlate(i) && isPlate(j)) {
            int one = order[i];
            order[i] = order[j];
            order[j] = one;
        }
    }

    /** How many can come behind a plate (NONE: behind nothing); only later ones, so it ends. */
    private int riseBehind(int last, int what) {
        int most = 0;
        for (int next = last + 1; next < plateCount; next++) {
            boolean fits = last < 0 || (what == 0 ? sizes[next] > sizes[last] : sizes[next] < sizes[last]);
            if (fits) {
                most = Math.max(most, 1 + riseBehind(next, what));
            }
        }
        return most;
    }

    // ---- the table

    public int lay(int layer) {
        Layer who = layerAt(layer);
        if (who == null) {
            return BAD;
        }
        if (now.laid >= plateCount) {
            return STATE;
        }
        int heap = chosenBy(who, now.heaps, now.laid);
        now.heaps.put(heap, now.laid);
        now.laid++;
        return heap;
    }

    public int take(int heap) {
        if (!now.heaps.has(heap)) {
            return BAD;
        }
        if (now.heaps.heightOf(heap) == 0) {
            return STATE;
        }
        return now.heaps.drop(heap);
    }

    public int on(int heap, int height) {
        if (!now.heaps.has(heap)) {
            return BAD;
        }
        return now.heaps.at(heap, height);
    }

    public int drawn(int layer, int seed) {
        Layer who = layerAt(layer);
        if (who == null) {
            return BAD;
        }
        orderOfNow();
        int z = seed;
        for (int i = 0; i + 1 < plateCount; i++) {
            z = z * 1103515245 + 12345;
            changeAbout(i, i + (z >>> 9) % (plateCount - i));
        }
        layInOrder(who, plateCount);
        return work.many;
    }

    public int image() {
        if (kept == null) {
            kept = new Table();
        }
        kept.become(now);
        return now.laid;
    }

    public int back() {
        if (kept == null) {
            return STATE;
        }
        now.become(kept);
        return now.laid;
    }

    public int count(int what) {
        switch (what) {
            case 0: return plateCount;
            case 1: return layerCount;
            case 2: return now.laid;
            case 3: return now.heaps.many;
            case 4: return now.highest;
            case 5: return textCount;
            case 6: return reader.size;
            case 7: return now.rule;
            default: return BAD;
        }
    }

    // ---- the host

    public int sheet(int sheet, int sort, int n) {
        Sheet asked = sheetAt(sheet);
        if (asked == null || sort < -1 || sort > LAST_SORT) {
            return BAD;
        }
        if (sort == -1) {
            asked.become(-1, 0);
            return 1;
        }
        if (n > MOST_ITEMS) {
            return BAD;
        }
        if (n < 0) {
            return BELOW_ZERO;
        }
        asked.become(sort, n);
        return 1;
    }

    public int cell(int sheet, int i, int v) {
        Sheet asked = sheetAt(sheet);
        if (asked == null) {
            return BAD;
        }
        if (asked.isMissing()) {
            return NOTHING;
        }
        if (!asked.has(i)) {
            return OUTSIDE;
        }
        asked.put(i, v);
        return 1;
    }

    public int copy(int sheet, int i, int other, int j, int n) {
        Sheet from = sheetAt(sheet);
        Sheet to = sheetAt(other);
        if (from == null || to == null) {
            return BAD;
        }
        if (from.isMissing() || to.isMissing()) {
            return NOTHING;
        }
        if (from.sort != to.sort) {
            return OTHER_SORT;
        }
        if (!from.hasSpan(i, n) || !to.hasSpan(j, n)) {
            return OUTSIDE;
        }
        System.arraycopy(from.items, i, to.items, j, n);
        return n;
    }

    public int plates(int sheet, int sort, int from, int n) {
        Sheet asked = sheetAt(sheet);
        if (asked == null || sort < 0 || sort > LAST_SORT || n < 0 || n > MOST_PLATES) {
            return BAD;
        }
        if (asked.isMissing()) {
            return NOTHING;
        }
        if (asked.sort != sort) {
            return OTHER_SORT;
        }
        int cameNow = 0;
        for (int i = 0; i < n; i++) {
            // Ahead of the sum, for from may be so great that the sum would wrap.
            if (!asked.has(from) || !asked.has(from + 2 * i) || !asked.has(from + 2 * i + 1)) {
                return OUTSIDE;
            }
            if (plate(asked.items[from + 2 * i], asked.items[from + 2 * i + 1]) >= 0) {
                cameNow++;
            }
        }
        return cameNow;
    }

    public int taken(int layer, int k) {
        if (k < 0 || k > LAST_KIND) {
            return BAD;
        }
        Layer asked = layerAt(layer);
        if (asked == null) {
            return NOTHING;
        }
        return isUnder(asked, k) ? asked.number : OTHER_SORT;
    }

    private Sheet sheetAt(int number) {
        return number >= 0 && number < MOST_SHEETS ? sheets[number] : null;
    }

    private static boolean isUnder(Layer asked, int kind) {
        switch (kind) {
            case 0: return true;
            case 1: return asked instanceof Near;
            case 2: return asked instanceof Free;
            case 3: return asked instanceof High;
            case 4: return asked instanceof Told;
            case 5: return asked instanceof Sulky;
            default: return false;
        }
    }

    /** One who lays plates; of heaps that may be he chooses the one of least rank. */
    static class Layer {
        final int kind;
        final int number;

        Layer(int kind, int number) {
            this.kind = kind;
            this.number = number;
        }

        int rank(int heap, int top, int size, int high) {
            return top;
        }

        /** Whether he begins a new heap though he may lay it on one. */
        boolean likes(int leastRank, int heaps) {
            return false;
        }
    }

    static class Near extends Layer {
        Near(int kind, int number) {
            super(kind, number);
        }

        int rank(int heap, int top, int size, int high) {
            return Math.abs(top - size) + number;
        }

        boolean likes(int leastRank, int heaps) {
            return leastRank > 50;
        }
    }

    static class Free extends Layer {
        Free(int kind, int number) {
            super(kind, number);
        }

        int rank(int heap, int top, int size, int high) {
            return heap;
        }
    }

    static final class High extends Near {
        High(int kind, int number) {
            super(kind, number);
        }

        int rank(int heap, int top, int size, int high) {
            return super.rank(heap, top, size, high) + 10 * high;
        }
    }

    static final class Told extends Free {
        Told(int kind, int number) {
            super(kind, number);
        }

        int rank(int heap, int top, int size, int high) {
            return (super.rank(heap, top, size, high) + number) % 4;
        }

        boolean likes(int leastRank, int heaps) {
            return heaps < number % 3;
        }
    }

    static final class Sulky extends Near {
        Sulky(int kind, int number) {
            super(kind, number);
        }

        int rank(int heap, int top, int size, int high) {
            return 100 - super.rank(heap, top, size, high);
        }

        boolean likes(int leastRank, int heaps) {
            return super.likes(leastRank, heaps) || heaps == 1;
        }
    }

    /** Heaps of plates, the lowest one first. */
    static final class Heaps {
        private final int[] rows = new int[MOST_PLATES * MOST_PLATES];
        private final int[] heights = new int[MOST_PLATES];
        int many;
        /** Of each plate that was put: its heap, and the plate on which it came to lie. */
        final int[] whereIs = new int[MOST_PLATES];
        final int[] beneath = new int[MOST_PLATES];

        void clear() {
            many = 0;
        }

        boolean has(int heap) {
            return heap >= 0 && heap < many;
        }

        int heightOf(int heap) {
            return heap >= 0 && heap < many ? heights[heap] : 0;
        }

        int at(int heap, int height) {
            if (height < 0 || height >= heightOf(heap)) {
                return NONE;
            }
            return rows[heap * MOST_PLATES + height];
        }

        int topOf(int heap) {
            int height = heightOf(heap);
            return height > 0 ? rows[heap * MOST_PLATES + height - 1] : NONE;
        }

        /** The number of how many there are is a new heap. */
        void put(int heap, int plate) {
            if (plate < 0 || plate >= MOST_PLATES) {
                return;
            }
            if (heap == many && many < MOST_PLATES) {
                heights[many] = 0;
                many++;
            }
            if (!has(heap) || heights[heap] >= MOST_PLATES) {
                return;
            }
            whereIs[plate] = heap;
            beneath[plate] = topOf(heap);
            rows[heap * MOST_PLATES + heights[heap]] = plate;
            heights[heap]++;
        }

        /** The heap stays, though none be left on it. */
        int drop(int heap) {
            int top = topOf(heap);
            if (top != NONE) {
                heights[heap]--;
            }
            return top;
        }

        /** As before the last put, which was on this heap: one that was begun by it goes too. */
        void undo(int heap) {
            drop(heap);
            if (has(heap) && heights[heap] == 0) {
                many = heap;
            }
        }

        void become(Heaps other) {
            System.arraycopy(other.rows, 0, rows, 0, rows.length);
            System.arraycopy(other.heights, 0, heights, 0, heights.length);
            System.arraycopy(other.whereIs, 0, whereIs, 0, whereIs.length);
            System.arraycopy(other.beneath, 0, beneath, 0, beneath.length);
            many = other.many;
        }
    }

    /** All that an IMAGE keeps. */
    static final class Table {
        final Heaps heaps = new Heaps();
        int laid;
        int highest = MOST_HIGH;
        int rule;

        void become(Table other) {
            heaps.become(other.heaps);
            laid = other.laid;
            highest = other.highest;
            rule = other.rule;
        }
    }

    /** A row of numbers whose room is made once; all sorts are held as ints. */
    static final class Sheet {
        final int[] items = new int[MOST_ITEMS];
        int sort = -1;
        int size;

        boolean isMissing() {
            return sort == -1;
        }

        boolean has(int i) {
            return i >= 0 && i < size;
        }

        boolean hasSpan(int i, int n) {
            return i >= 0 && n >= 0 && i <= size && n <= size - i;
        }

        void become(int newSort, int n) {
            sort = newSort;
            size = Math.max(0, Math.min(MOST_ITEMS, n));
            Arrays.fill(items, 0);
        }

        void put(int i, int v) {
            if (has(i)) {
                items[i] = sort == 0 ? (byte) v : sort == 1 ? (short) v : v;
            }
        }
    }

    /**
     * A TEXT as steps over a stack, each one behind what it joins: so no depth of calls is needed
     * to tell what it is worth. A step from 0 on is a NUMBER, one of NAMES is below 0.
     */
    static final class Rule {
        static final int SIZE = -1, TOP = -2, DEEP = -3, UNDER = -4, HIGH = -5, HEAP = -6;
        static final int OR = -11, AND = -12, LESS = -13, LIKE = -14, PLUS = -15, MINUS = -16, TIMES = -17;
        static final int NOT = -21, MINUS_ONE = -22;
        /** Five joins wait for each E that is open; there are six at most. */
        private static final int MOST_WAITING = 40;

        private final int[] steps;
        private final int paysFrom;
        private final int weighsFrom;
        private final int[] names = new int[6];
        private final int[] stack = new int[MOST_WAITING];

        Rule(int[] steps, int paysFrom, int weighsFrom) {
            this.steps = steps;
            this.paysFrom = paysFrom;
            this.weighsFrom = weighsFrom;
        }

        void about(int size, int top, int deep, int under, int high, int heap) {
            names[0] = size;
            names[1] = top;
            names[2] = deep;
            names[3] = under;
            names[4] = high;
            names[5] = heap;
        }

        int value(int part) {
            int from = part == MAY ? 0 : part == PAYS ? paysFrom : weighsFrom;
            int to = part == MAY ? paysFrom : part == PAYS ? weighsFrom : steps.length;
            int waiting = 0;
            for (int i = Math.max(0, from); i < to && i < steps.length; i++) {
                int step = steps[i];
                if (step >= HEAP) {
                    if (waiting >= MOST_WAITING) {
                        return 0;
                    }
                    stack[waiting] = step >= 0 ? step : names[SIZE - step];
                    waiting++;
                } else if (step <= NOT) {
                    if (waiting < 1) {
                        return 0;
                    }
                    int one = stack[waiting - 1];
                    stack[waiting - 1] = step == MINUS_ONE ? -one : one == 0 ? 1 : 0;
                } else {
                    if (waiting < 2) {
                        return 0;
                    }
                    waiting--;
                    stack[waiting - 1] = joined(step, stack[waiting - 1], stack[waiting]);
                }
            }
            return stack[0];
        }

        private static int joined(int step, int a, int b) {
            switch (step) {
                case OR: return a != 0 || b != 0 ? 1 : 0;
                case AND: return a != 0 && b != 0 ? 1 : 0;
                case LESS: return a < b ? 1 : 0;
                case LIKE: return a == b ? 1 : 0;
                case PLUS: return a + b;
                case MINUS: return a - b;
                case TIMES: return a * b;
                default: return 0;
            }
        }
    }

    /** THE TAPE, and the reading of a TEXT from it. */
    static final class Reader {
        /** Kinds of TOKENS; a NAME's is its step, a SIGN's its byte. */
        private static final int END = 0, WRONG = 1, NUMBER = 2;
        private static final int KEY_MAY = 3, KEY_PAYS = 4, KEY_WEIGHS = 5, KEY_OR = 6, KEY_AND = 7, KEY_NOT = 8;
        private static final int MOST_DIGITS = 4;

        private final int[] tape = new int[MOST_BYTES];
        int size;
        /** The place of the first TOKEN that can't stand where it does; NONE while all could. */
        int fault;

        /** The TOKEN that is looked at: its kind, where it begins, where what is behind it begins. */
        private int kind;
        private int place;
        private int behind;
        private int number;

        private final int[] steps = new int[MOST_BYTES];
        private int stepCount;

        boolean append(int letter) {
            if (size >= MOST_BYTES) {
                return false;
            }
            tape[size] = letter;
            size++;
            return true;
        }

        /** The TEXT on THE TAPE; null, and its fault, if it is none. */
        Rule read() {
            fault = NONE;
            behind = 0;
            stepCount = 0;
            advance();
            readPart(KEY_MAY);
            int paysFrom = stepCount;
            readPart(KEY_PAYS);
            int weighsFrom = stepCount;
            readPart(KEY_WEIGHS);
            pass(END);
            if (fault != NONE) {
                return null;
            }
            return new Rule(Arrays.copyOf(steps, stepCount), paysFrom, weighsFrom);
        }

        private void readPart(int key) {
            pass(key);
            readE(0);
            pass(';');
        }

        private void readE(int open) {
            readAnd(open);
            for (int i = 0; i < MOST_BYTES && kind == KEY_OR; i++) {
                advance();
                readAnd(open);
                add(Rule.OR);
            }
        }

        private void readAnd(int open) {
            readNot(open);
            for (int i = 0; i < MOST_BYTES && kind == KEY_AND; i++) {
                advance();
                readNot(open);
                add(Rule.AND);
            }
        }

        private void readNot(int open) {
            if (kind == KEY_NOT) {
                if (opens(open)) {
                    readNot(open + 1);
                    add(Rule.NOT);
                }
                return;
            }
            readSum(open);
            if (kind == '<' || kind == '=') {
                int step = kind == '<' ? Rule.LESS : Rule.LIKE;
                advance();
                readSum(open);
                add(step);
            }
        }

        private void readSum(int open) {
            readTerm(open);
            for (int i = 0; i < MOST_BYTES && (kind == '+' || kind == '-'); i++) {
                int step = kind == '+' ? Rule.PLUS : Rule.MINUS;
                advance();
                readTerm(open);
                add(step);
            }
        }

        private void readTerm(int open) {
            readOne(open);
            for (int i = 0; i < MOST_BYTES && kind == '*'; i++) {
                advance();
                readOne(open);
                add(Rule.TIMES);
            }
        }

        private void readOne(int open) {
            if (kind == NUMBER || kind < 0) {
                add(kind == NUMBER ? number : kind);
                advance();
            } else if (kind == '-') {
                if (opens(open)) {
                    readOne(open + 1);
                    add(Rule.MINUS_ONE);
                }
            } else if (kind == '(') {
                if (opens(open)) {
                    readE(open + 1);
                    pass(')');
                }
            } else {
                fail();
            }
        }

        /** Goes past a TOKEN that opens one more; a fault, if too many are open. */
        private boolean opens(int open) {
            if (open >= MOST_OPEN) {
                fail();
                return false;
            }
            advance();
            return true;
        }

        private void pass(int wanted) {
            if (kind == wanted) {
                advance();
            } else {
                fail();
            }
        }

        /** Behind a fault every TOKEN is WRONG, which stands nowhere: so the reading ends. */
        private void fail() {
            if (fault == NONE) {
                fault = place;
            }
            kind = WRONG;
        }

        private void add(int step) {
            if (stepCount < MOST_BYTES) {
                steps[stepCount] = step;
                stepCount++;
            }
        }

        private void advance() {
            if (fault != NONE) {
                return;
            }
            while (behind < size && (tape[behind] == 32 || tape[behind] == 10)) {
                behind++;
            }
            place = behind;
            if (place >= size) {
                kind = END;
            } else if (isLetter(tape[place])) {
                scanWord();
            } else if (isDigit(tape[place])) {
                scanNumber();
            } else {
                behind++;
                kind = isSign(tape[place]) ? tape[place] : WRONG;
            }
        }

        private void scanNumber() {
            number = 0;
            while (behind < size && isDigit(tape[behind])) {
                if (behind - place < MOST_DIGITS) {
                    number = number * 10 + (tape[behind] - '0');
                }
                behind++;
            }
            kind = behind - place > MOST_DIGITS ? WRONG : NUMBER;
        }

        private void scanWord() {
            while (behind < size && isLetter(tape[behind])) {
                behind++;
            }
            if (spells("may")) kind = KEY_MAY;
            else if (spells("pays")) kind = KEY_PAYS;
            else if (spells("weighs")) kind = KEY_WEIGHS;
            else if (spells("or")) kind = KEY_OR;
            else if (spells("and")) kind = KEY_AND;
            else if (spells("not")) kind = KEY_NOT;
            else if (spells("size")) kind = Rule.SIZE;
            else if (spells("top")) kind = Rule.TOP;
            else if (spells("deep")) kind = Rule.DEEP;
            else if (spells("under")) kind = Rule.UNDER;
            else if (spells("high")) kind = Rule.HIGH;
            else if (spells("heap")) kind = Rule.HEAP;
            else kind = WRONG;
        }

        private boolean spells(String word) {
            if (behind - place != word.length()) {
                return false;
            }
            for (int i = 0; i < word.length() && place + i < size; i++) {
                if (tape[place + i] != word.charAt(i)) {
                    return false;
                }
            }
            return true;
        }

        private static boolean isLetter(int b) {
            return b >= 'a' && b <= 'z';
        }

        private static boolean isDigit(int b) {
            return b >= '0' && b <= '9';
        }

        private static boolean isSign(int b) {
            return b == '(' || b == ')' || b == ';' || b == '+' || b == '-' || b == '*' || b == '<' || b == '=';
        }
    }
}
