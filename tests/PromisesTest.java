import java.util.function.ToLongFunction;

/** For each promise of the document: ordinary inputs, its edges, and what it refuses. */
public final class PromisesTest {
    private static final int NONE = -1, BAD = -2, STATE = -3, FULL = -4;
    private static final int NOTHING = -11, OUTSIDE = -12, OTHER_SORT = -13, BELOW_ZERO = -14;
    private static final long NO = -4611686018427387904L;
    private static int wrong = 0;
    private static int asked = 0;

    public static void main(String[] args) {
        newObject();
        platesAndLayers();
        setting();
        tellings();
        tape();
        textValues();
        textFaults();
        openAtOnce();
        textRoom();
        forcing();
        byLayers();
        ranks();
        likes();
        fewestAndCheapest();
        rows();
        severalRows();
        orders();
        ordersOfMany();
        lessAndRises();
        judging();
        strangers();
        table();
        emptyHeaps();
        drawing();
        images();
        sheets();
        copies();
        platesBySheet();
        takenFor();
        refusalsChangeNothing();
        System.out.println(asked + " answers asked, " + wrong + " not as due");
        if (wrong != 0) {
            System.exit(1);
        }
    }

    private static void due(int promise, String what, long got, long want) {
        asked++;
        if (got != want) {
            wrong++;
            System.out.println("promise " + promise + ": " + what + " answered " + got + ", due is " + want);
        }
    }

    private static GreaterPlates with(int... sizes) {
        GreaterPlates x = new GreaterPlates();
        for (int size : sizes) {
            x.plate(size, 0);
        }
        return x;
    }

    private static int read(GreaterPlates x, String text) {
        for (int i = 0; i < text.length(); i++) {
            x.feed(text.charAt(i));
        }
        return x.text();
    }

    private static void rule(GreaterPlates x, String text) {
        int number = read(x, text);
        due(7, "a rule for a test: " + text, number >= 0 ? 1 : number, 1);
        x.force(number);
    }

    private static void fill(GreaterPlates x, int sheet, int sort, int... items) {
        x.sheet(sheet, sort, items.length);
        for (int i = 0; i < items.length; i++) {
            x.cell(sheet, i, items[i]);
        }
    }

    private static void newObject() {
        GreaterPlates x = new GreaterPlates();
        int[] counts = {0, 0, 0, 0, 9, 1, 0, 0};
        for (int what = 0; what < counts.length; what++) {
            due(1, "count(" + what + ")", x.count(what), counts[what]);
        }
        for (int sheet = 0; sheet < 4; sheet++) {
            due(1, "judge of a missing sheet", x.judge(sheet), NOTHING);
        }
        due(28, "count(-1)", x.count(-1), BAD);
        due(28, "count(8)", x.count(8), BAD);
    }

    private static void platesAndLayers() {
        GreaterPlates x = new GreaterPlates();
        due(2, "size -1", x.plate(-1, 0), BAD);
        due(2, "size 100", x.plate(100, 0), BAD);
        due(2, "depth -1", x.plate(0, -1), BAD);
        due(2, "depth 100", x.plate(0, 100), BAD);
        for (int i = 0; i < 8; i++) {
            due(2, "plate", x.plate(i % 2 == 0 ? 0 : 99, i % 2 == 0 ? 99 : 0), i);
        }
        due(2, "a ninth", x.plate(1, 1), FULL);
        due(2, "BAD is named ahead of FULL", x.plate(100, 1), BAD);
        due(28, "plates", x.count(0), 8);
        due(3, "kind -1", x.layer(-1, 0), BAD);
        due(3, "kind 6", x.layer(6, 0), BAD);
        due(3, "number -1", x.layer(0, -1), BAD);
        due(3, "number 10", x.layer(0, 10), BAD);
        for (int i = 0; i < 5; i++) {
            due(3, "layer", x.layer(i + 1, 9 - i), i);
        }
        due(3, "a sixth", x.layer(0, 0), FULL);
        due(3, "BAD is named ahead of FULL", x.layer(0, 10), BAD);
        due(28, "layers", x.count(1), 5);
        due(5, "kind", x.told(4, 3), 5);
        due(5, "number", x.told(0, 4), 9);
    }

    private static void setting() {
        GreaterPlates x = with(5);
        due(4, "size was", x.set(0, 0, 99), 5);
        due(4, "size was", x.set(0, 0, 0), 99);
        due(4, "depth was", x.set(1, 0, 7), 0);
        due(4, "depth was", x.set(1, 0, 8), 7);
        due(4, "highest was, of does not matter", x.set(2, -77, 1), 9);
        due(4, "highest was", x.set(2, 99, 9), 1);
        due(4, "highest 0", x.set(2, 0, 0), BAD);
        due(4, "highest 10", x.set(2, 0, 10), BAD);
        due(4, "no such plate", x.set(0, 1, 1), BAD);
        due(4, "no such plate", x.set(1, -1, 1), BAD);
        due(4, "size 100", x.set(0, 0, 100), BAD);
        due(4, "depth -1", x.set(1, 0, -1), BAD);
        due(4, "what 3", x.set(3, 0, 1), BAD);
        due(4, "what -1", x.set(-1, 0, 1), BAD);
        due(5, "size", x.told(0, 0), 0);
        due(5, "depth", x.told(0, 1), 8);
        due(28, "highest", x.count(4), 9);
    }

    private static void tellings() {
        GreaterPlates x = new GreaterPlates();
        x.plate(12, 34);
        x.layer(4, 7);
        due(5, "size", x.told(0, 0), 12);
        due(5, "depth", x.told(0, 1), 34);
        due(5, "weighs", x.told(0, 2), 12);
        due(5, "kind", x.told(0, 3), 4);
        due(5, "number", x.told(0, 4), 7);
        for (int what = -1; what <= 5; what++) {
            due(5, "of 1", x.told(1, what), BAD);
            due(5, "of -1", x.told(-1, what), BAD);
        }
        due(5, "what -1", x.told(0, -1), BAD);
        due(5, "what 5", x.told(0, 5), BAD);
        rule(x, "may 1;pays 1;weighs deep*3;");
        due(5, "weighs above the bound", x.told(0, 2), 99);
        rule(x, "may 1;pays 1;weighs size-deep;");
        due(5, "weighs below the bound", x.told(0, 2), 0);
        rule(x, "may 1;pays 1;weighs 50+top+under+high+heap;");
        due(5, "weighs of a plate alone", x.told(0, 2), 50);
    }

    private static void tape() {
        GreaterPlates x = new GreaterPlates();
        due(6, "-1", x.feed(-1), BAD);
        due(6, "256", x.feed(256), BAD);
        for (int i = 1; i <= 160; i++) {
            due(6, "feed", x.feed(i % 2 == 0 ? 0 : 255), i);
        }
        due(6, "a byte too many", x.feed(1), FULL);
        due(6, "BAD is named ahead of FULL", x.feed(256), BAD);
        due(28, "bytes of the tape", x.count(6), 160);
        due(7, "a byte that begins none", x.text(), -100);
        due(7, "the tape is empty then", x.count(6), 0);
        due(7, "an empty tape", x.text(), -100);
        due(7, "a whole tape", read(x, " ".repeat(157) + "may"), -260);
        due(7, "a whole tape of one number", read(x, " ".repeat(154) + "may 12"), -260);
        read(x, "may 1234;");
        due(7, "what stood behind is gone", read(x, "ma"), -100);
        read(x, "may 12345;");
        due(7, "what stood behind is gone", read(x, "may 1234"), -108);
        read(x, "may 1;pays 1;weighs 1; ;");
        due(7, "what stood behind is gone", read(x, "may 1;pays 1;weighs 1; "), 1);
    }

    /** What an E is, by weighs of a plate of size 5, depth 3. */
    private static void weighs(String e, int want) {
        GreaterPlates x = new GreaterPlates();
        x.plate(5, 3);
        rule(x, "may 0;pays 0;weighs " + e + ";");
        due(7, e, x.told(0, 2), want);
    }

    private static void textValues() {
        weighs("1+2*3", 7);
        weighs("(1+2)*3", 9);
        weighs("9-2-3", 4);
        weighs("9-(2-3)", 10);
        weighs("--5", 5);
        weighs("10+-5", 5);
        weighs("2*-3+10", 4);
        weighs("size*deep", 15);
        weighs("7 or 0", 1);
        weighs("0 or 0", 0);
        weighs("7 and 8", 1);
        weighs("7 and 0", 0);
        weighs("1 or 1 and 0", 1);
        weighs("(1 or 1) and 0", 0);
        weighs("not 7", 0);
        weighs("not 0", 1);
        weighs("not not 7", 1);
        weighs("not 1<0", 1);
        weighs("not 0 and 0", 0);
        weighs("3<4", 1);
        weighs("4<4", 0);
        weighs("-1<0", 1);
        weighs("4=4", 1);
        weighs("4=5", 0);
        weighs("2+2=2*2", 1);
        weighs("(3<4)+(3<4)", 2);
        weighs("0012", 12);
        weighs("9999-9989", 10);
        weighs("9999*9999*9999", Math.max(0, Math.min(99, 9999 * 9999 * 9999)));
        weighs("9999*9999*9999*9999", Math.max(0, Math.min(99, 9999 * 9999 * 9999 * 9999)));
        weighs("8192*8192*64+7", 7);
        weighs("8192*8192*32<0", 1);
        weighs("1or 0", 1);
        weighs("size and(deep)", 1);
        weighs("\n 7 \n", 7);
    }

    private static void fault(String text, int place) {
        GreaterPlates x = new GreaterPlates();
        due(7, "the fault of '" + text + "'", read(x, text), -100 - place);
        due(7, "the tape behind a fault", x.count(6), 0);
        due(28, "texts behind a fault", x.count(5), 1);
    }

    private static void textFaults() {
        fault("", 0);
        fault("  ", 2);
        fault("size", 0);
        fault("may", 3);
        fault("may ", 4);
        fault("may 1", 5);
        fault("may 1;", 6);
        fault("may 1;pays 1;weighs 1", 21);
        fault("may 1;pays 1;weighs 1  ", 23);
        fault("may 1;pays 1;weighs 1;;", 22);
        fault("may 1;pays 1;weighs 1; x", 23);
        fault("may 1;weighs 1;pays 1;", 6);
        fault("may ;", 4);
        fault("may 1 2;", 6);
        fault("may 12345;", 4);
        fault("may 1+00001;", 6);
        fault("may foo;", 4);
        fault("maysize;", 0);
        fault("may sizes;", 4);
        fault("may Size;", 4);
        fault("may 1+may;", 6);
        fault("may 1+not 1;", 6);
        fault("may -not 1;", 5);
        fault("may 1<2<3;", 7);
        fault("may 1=2<3;", 7);
        fault("may (1;", 6);
        fault("may 1);", 5);
        fault("may ();", 5);
        fault("may 1**2;", 6);
        fault("may 1>2;", 5);
        fault("may 1 ; pays 1 $ ;", 15);
        fault("may 1\t;", 5);
        fault("may 1 $ 12345", 6);
        fault("may 1 or;", 8);
        fault("may or 1;", 4);
        fault("may 1 and or 1;", 10);
        fault("may +1;", 4);
    }

    private static void openAtOnce() {
        weighs("(((((1)))))", 1);
        weighs("-----1+10", 9);
        weighs("not not not not not 1", 0);
        weighs("not(-(-1))", 0);
        weighs("(((((1)))))+(((((1)))))", 2);
        weighs("-----1*-----1", 1);
        weighs("not not not not not 1 or not not not not not 0", 1);
        fault("may ((((((1))))));", 9);
        fault("may ------1;", 9);
        fault("may not not not not not not 1;", 24);
        fault("may not(-(-(1+(1;", 11);
        fault("may not(-(-1+-(-1;", 14);
        fault("may not not not not not 1<-1;", 26);
        fault("may (((((1 and not 1)))));", 15);
        fault("may (((((1-1*-1)))));", 13);
    }

    private static void textRoom() {
        GreaterPlates x = new GreaterPlates();
        for (int i = 1; i <= 5; i++) {
            due(28, "texts", x.count(5), i);
            due(7, "text", read(x, "may 1;pays " + i + ";weighs 1;"), i);
        }
        due(7, "no text more has room", read(x, "may 1;pays 1;weighs 1;"), FULL);
        due(7, "the tape stays", x.count(6), 22);
        due(7, "it stays so", x.text(), FULL);
        due(28, "texts", x.count(5), 6);
    }

    private static void forcing() {
        GreaterPlates x = with(3);
        due(8, "-1", x.force(-1), BAD);
        due(8, "1 isn't there", x.force(1), BAD);
        read(x, "may 1;pays 5;weighs 9;");
        due(8, "a text that isn't the rule", x.told(0, 2), 3);
        due(8, "which was", x.force(1), 0);
        due(28, "the rule", x.count(7), 1);
        due(8, "its weighs", x.told(0, 2), 9);
        due(8, "which was", x.force(0), 1);
        due(8, "6", x.force(6), BAD);
        due(8, "the first again", x.told(0, 2), 3);
    }

    private static void byLayers() {
        GreaterPlates x = with(7, 2, 8, 1, 3);
        x.layer(0, 0);
        due(9, "heaps", x.by(0, 0), 2);
        due(9, "pays", x.by(0, 1), 2);
        int[] heaps = {0, 0, 1, 0, 1};
        x.set(0, 4, 4);
        x.set(0, 1, 5);
        for (int plate = 0; plate < heaps.length; plate++) {
            due(10, "heap of " + plate, x.heapOf(0, plate), heaps[plate]);
        }
        due(9, "no such layer", x.by(1, 0), BAD);
        due(9, "no such layer", x.by(-1, 0), BAD);
        due(9, "what 2", x.by(0, 2), BAD);
        due(9, "what -1", x.by(0, -1), BAD);
        due(10, "no such layer", x.heapOf(1, 0), BAD);
        due(10, "no such plate", x.heapOf(0, 5), BAD);
        due(10, "no such plate", x.heapOf(0, -1), BAD);
        rule(x, "may size<top;pays top+under*2+high*3+heap*50;weighs 1;");
        // 7 new: 0; 5 on 7: 7 + 3; 8 new: 50; 1 on 5: 5 + 6; 4 on 8: 8 + 3 + 50
        due(9, "pays of old and new heaps", x.by(0, 1), 0 + 10 + 50 + 11 + 61);
        rule(x, "may size<top;pays heap*100-5;weighs 1;");
        due(9, "pays by its bounds", x.by(0, 1), 0 + 0 + 95 + 0 + 95);
        x.set(2, 0, 2);
        due(9, "two at most lie on a heap", x.heapOf(0, 3), 1);
        due(9, "heaps then", x.by(0, 0), 3);
    }

    private static void ranks() {
        // Heaps with tops 50 and 60, then a third plate.
        GreaterPlates x = with(50, 60, 20);
        x.layer(0, 0);
        x.layer(1, 0);
        x.layer(2, 0);
        x.layer(4, 3);
        x.layer(5, 0);
        due(10, "a LAYER takes the least top", x.heapOf(0, 2), 0);
        due(10, "a NEAR the nearest", x.heapOf(1, 2), 0);
        due(10, "a FREE the first", x.heapOf(2, 2), 0);
        due(10, "a TOLD by his number, modulo 4", x.heapOf(3, 2), 1);
        due(10, "a SULKY likes a new one above 50", x.heapOf(4, 2), 2);
        x.set(0, 2, 1);
        due(10, "a SULKY the farthest", x.heapOf(4, 2), 1);
        rule(x, "may 1<high+heap or size<top;pays 1;weighs 1;");
        x.set(0, 0, 60);
        due(10, "of like ranks the least number", x.heapOf(0, 2), 0);
        rule(x, "may heap;pays 1;weighs 1;");
        due(10, "heap 0 bears none", x.heapOf(0, 1), 1);
        due(10, "heap 1 does", x.heapOf(0, 2), 1);

        GreaterPlates y = with(50, 40, 60, 35);
        y.layer(3, 0);
        y.layer(1, 0);
        due(10, "a NEAR lays it near", y.heapOf(1, 3), 0);
        due(10, "a HIGH too, if 5 + 20 is less than 25 + 10", y.heapOf(0, 3), 0);
        y.set(0, 3, 36);
        y.set(0, 2, 50);
        due(10, "a HIGH of like ranks: 4 + 20, 14 + 10", y.heapOf(0, 3), 0);
        y.set(0, 2, 51);
        y.set(0, 3, 38);
        due(10, "a HIGH: 2 + 20, 13 + 10", y.heapOf(0, 3), 0);
        y.set(0, 3, 39);
        y.set(0, 1, 48);
        due(10, "a HIGH: 9 + 20, 12 + 10", y.heapOf(0, 3), 1);
        due(10, "a NEAR: 9, 12", y.heapOf(1, 3), 0);
    }

    private static void likes() {
        GreaterPlates x = with(60, 10);
        x.layer(1, 0);
        x.layer(1, 1);
        x.layer(3, 0);
        x.layer(5, 9);
        x.layer(0, 9);
        due(9, "a NEAR at 50", x.by(0, 0), 1);
        due(9, "a NEAR at 51", x.by(1, 0), 2);
        due(9, "a HIGH at 60", x.by(2, 0), 2);
        due(9, "a SULKY with one heap", x.by(3, 0), 2);
        due(9, "a LAYER never", x.by(4, 0), 1);
        x.set(0, 1, 20);
        due(9, "a HIGH at 50", x.by(2, 0), 1);
        GreaterPlates y = with(60, 10, 5);
        int[] numbers = {3, 4, 5, 9, 8};
        int[] heaps = {1, 1, 2, 1, 2};
        for (int i = 0; i < numbers.length; i++) {
            y.layer(4, numbers[i]);
            due(9, "a TOLD of " + numbers[i], y.by(i, 0), heaps[i]);
        }
    }

    private static void fewestAndCheapest() {
        GreaterPlates x = new GreaterPlates();
        due(11, "no plates", x.fewest(0), 0);
        due(11, "no plates", x.fewest(1), 0);
        due(11, "what -1", x.fewest(-1), BAD);
        due(11, "what 2", x.fewest(2), BAD);
        x.layer(2, 0);
        int[] sizes = {5, 9, 4, 8};
        for (int size : sizes) {
            x.plate(size, 0);
        }
        due(11, "fewest", x.fewest(0), 2);
        rule(x, "may size<top;pays 10*(1-high)+20*heap;weighs 1;");
        // Heap 1 costs 30, what lies on it 20, what lies on heap 0 nothing.
        due(11, "cheapest", x.fewest(1), 10 + 30 + 0 + 20);
        rule(x, "may size<top;pays 50*(0<high);weighs 1;");
        due(11, "cheapest is not by fewest", x.fewest(1), 0);
        due(11, "fewest is not by pays", x.fewest(0), 2);
        x.set(2, 0, 1);
        due(11, "one on each", x.fewest(0), 4);
        x.set(2, 0, 9);
        rule(x, "may heap=1;pays 1;weighs 1;");
        due(11, "only heap 1 bears", x.fewest(0), 2);
        GreaterPlates y = with(9, 8, 7, 6, 5, 4, 3, 2);
        due(11, "all on one", y.fewest(0), 1);
        y.set(2, 0, 3);
        due(11, "three at most on each", y.fewest(0), 3);
        due(11, "which costs", y.fewest(1), 3);
        GreaterPlates z = with(9, 9, 8, 7);
        z.layer(0, 0);
        rule(z, "may size<top and high*2<3;pays 1;weighs 1;");
        due(11, "a text of high", z.fewest(0), 2);
    }

    private static void rows() {
        GreaterPlates x = new GreaterPlates();
        for (int what = 0; what < 4; what++) {
            due(12, "no plates", x.longest(what), 0);
        }
        due(12, "what -1", x.longest(-1), BAD);
        due(12, "what 4", x.longest(4), BAD);
        int[] sizes = {4, 1, 5, 2, 6};
        for (int size : sizes) {
            x.plate(size, 0);
        }
        // 4 5 6, 1 5 6, 1 2 6
        due(12, "longest", x.longest(0), 3);
        due(12, "how many", x.longest(1), 3);
        due(12, "in all", x.longest(2), 16);
        due(12, "the least as bits", x.longest(3), 1 + 4 + 16);
        x.set(2, 0, 1);
        due(12, "HIGHEST is not asked", x.longest(0), 3);
        rule(x, "may heap or 1<high or size<top;pays 1;weighs 1;");
        due(12, "one alone on heap 0", x.longest(0), 3);
        rule(x, "may high;pays 1;weighs 1;");
        due(12, "all could lie", x.longest(0), 1);
        due(12, "each is a row", x.longest(1), 5);
        due(12, "none is in all", x.longest(2), 0);
        due(12, "the first", x.longest(3), 1);
        rule(x, "may 0;pays 1;weighs 1;");
        due(12, "none could lie", x.longest(3), 31);
        due(12, "all in it", x.longest(2), 31);
        GreaterPlates y = with(1, 9, 1, 9);
        rule(y, "may size=top+8;pays 1;weighs 1;");
        // No 9 lies just behind a 1: 9 1, 1 1, 9 9 do.
        due(12, "only the one just ahead counts", y.longest(0), 2);
        due(12, "how many", y.longest(1), 3);
        due(12, "in all", y.longest(2), 0);
        due(12, "the least", y.longest(3), 5);
    }

    private static void severalRows() {
        GreaterPlates x = new GreaterPlates();
        due(13, "no plates", x.several(1), 0);
        due(13, "0", x.several(0), BAD);
        due(13, "4", x.several(4), BAD);
        for (int i = 0; i < 8; i++) {
            x.plate(80 - 10 * i, 0);
        }
        for (int k = 1; k <= 3; k++) {
            due(13, "one in each", x.several(k), k);
        }
        GreaterPlates y = with(3, 4, 1, 2, 5, 6);
        due(13, "1", y.several(1), 4);
        due(13, "2: 3 4, 1 2 5 6", y.several(2), 6);
        due(13, "fewer rows well", y.several(3), 6);
        // The longest row 4 5 6 7 would leave 1, 2, 3 each alone: two rows take all but one.
        GreaterPlates z = with(4, 5, 3, 6, 2, 7, 1, 1);
        due(13, "1", z.several(1), 4);
        due(13, "2", z.several(2), 6);
        due(13, "3", z.several(3), 7);
    }

    private static void orders() {
        GreaterPlates x = new GreaterPlates();
        x.layer(0, 0);
        due(14, "no plates: one order", x.orders(0, 0), 1);
        due(14, "none of one heap", x.orders(0, 1), 0);
        due(15, "no plates", x.mean(0, 0), 0);
        due(15, "no plates", x.mean(0, 1), 1);
        due(16, "no place", x.bestOrder(0, 0), BAD);
        due(17, "no plates", x.came(0), 1);
        x.plate(1, 0);
        x.plate(2, 0);
        x.plate(3, 0);
        int[] heaps = {0, 1, 4, 1, 0, 0, 0, 0, 0};
        for (int h = 0; h <= 8; h++) {
            due(14, "orders of " + h, x.orders(0, h), heaps[h]);
        }
        due(14, "h -1", x.orders(0, -1), BAD);
        due(14, "h 9", x.orders(0, 9), BAD);
        due(14, "layer 1", x.orders(1, 0), BAD);
        due(14, "layer -1", x.orders(-1, 0), BAD);
        // 1 + 4 * 2 + 3 = 12 of 6
        due(15, "above", x.mean(0, 0), 2);
        due(15, "below", x.mean(0, 1), 1);
        due(15, "part 2", x.mean(0, 2), NO);
        due(15, "part -1", x.mean(0, -1), NO);
        due(15, "layer 1", x.mean(1, 0), NO);
        for (int place = 0; place < 3; place++) {
            due(16, "the best at " + place, x.bestOrder(0, place), 2 - place);
        }
        due(16, "place 3", x.bestOrder(0, 3), BAD);
        due(16, "place -1", x.bestOrder(0, -1), BAD);
        due(16, "layer 1", x.bestOrder(1, 0), BAD);
        due(17, "none lies on one: only 1 2 3 itself", x.came(0), 1);
        due(17, "layer 1", x.came(1), BAD);
        x.set(0, 0, 3);
        x.set(0, 2, 1);
        x.set(0, 1, 1);
        // 3, 1, 1: the second lies on the first, the third begins one.
        due(17, "by numbers 0 1 2 and 2 0 1", x.came(0), 2);
        due(16, "the first of several", x.bestOrder(0, 0), 0);
        due(16, "the first of several", x.bestOrder(0, 1), 1);
        due(14, "two heaps", x.orders(0, 2), 4);
        due(14, "three heaps", x.orders(0, 3), 2);
        due(15, "14 of 6 above", x.mean(0, 0), 7);
        due(15, "14 of 6 below", x.mean(0, 1), 3);
        x.set(2, 0, 1);
        due(17, "none on any", x.came(0), 6);
    }

    private static void ordersOfMany() {
        GreaterPlates x = with(6, 5, 4, 3, 2, 1);
        x.layer(0, 0);
        due(14, "Eulerian or not, one order has 6 heaps", x.orders(0, 6), 1);
        int all = 0;
        for (int h = 0; h <= 8; h++) {
            all += x.orders(0, h);
        }
        due(14, "all orders", all, 720);
        x.plate(1, 0);
        due(14, "seven", x.orders(0, 1), STATE);
        due(14, "BAD is named ahead of STATE", x.orders(0, 9), BAD);
        due(15, "seven", x.mean(0, 0), NO);
        due(16, "seven", x.bestOrder(0, 6), STATE);
        due(16, "BAD is named ahead of STATE", x.bestOrder(0, 7), BAD);
        due(17, "seven", x.came(0), STATE);
        due(17, "BAD is named ahead of STATE", x.came(1), BAD);
    }

    private static void lessAndRises() {
        GreaterPlates x = new GreaterPlates();
        due(18, "no plates", x.less(0), NONE);
        due(18, "no plates", x.less(1), NONE);
        due(18, "what -1", x.less(-1), BAD);
        due(18, "what 2", x.less(2), BAD);
        due(19, "no plates", x.rises(0), 0);
        due(19, "what -1", x.rises(-1), BAD);
        due(19, "what 2", x.rises(2), BAD);
        GreaterPlates y = with(9, 3, 5, 8);
        due(18, "3 5 8: without 3 two heaps do", y.less(0), 1);
        due(18, "5 ahead of 3", y.less(1), 1);
        due(19, "3 5 8", y.rises(0), 3);
        due(19, "9 3", y.rises(1), 2);
        GreaterPlates z = with(5, 6, 2, 3);
        due(18, "two rows: none alone", z.less(0), NONE);
        due(18, "two rows: no two", z.less(1), NONE);
        due(19, "5 6", z.rises(0), 2);
        due(19, "5 2", z.rises(1), 2);
        GreaterPlates same = with(4, 4, 4);
        due(18, "like ones changed about", same.less(1), NONE);
        due(18, "the first of several", same.less(0), 0);
        due(19, "like ones do not rise", same.rises(0), 1);
        due(19, "nor fall", same.rises(1), 1);
    }

    private static void judging() {
        GreaterPlates x = with(5, 3, 4);
        due(20, "-1", x.judge(-1), BAD);
        due(20, "4", x.judge(4), BAD);
        due(20, "missing", x.judge(3), NOTHING);
        fill(x, 0, 0);
        due(20, "nothing told", x.judge(0), NONE);
        fill(x, 0, 0, 0, 0, 1);
        due(20, "lawful", x.judge(0), NONE);
        fill(x, 0, 1, 0, 1, 2);
        due(20, "new ones", x.judge(0), NONE);
        fill(x, 0, 2, 0, 0, 0);
        due(20, "it may not lie there", x.judge(0), 2);
        fill(x, 0, 2, 1, 0, 0);
        due(20, "no such heap yet", x.judge(0), 0);
        fill(x, 0, 0, 0, -1, 0);
        due(20, "none such", x.judge(0), 1);
        fill(x, 0, 2, 0, 0, 1, 2);
        due(20, "no plate", x.judge(0), 3);
        fill(x, 0, 2, 0, 0);
        due(20, "fewer than plates", x.judge(0), NONE);
        x.set(2, 0, 1);
        due(20, "too high", x.judge(0), 1);
    }

    private static void strangers() {
        GreaterPlates x = with(50, 60, 20);
        due(21, "-1", x.stranger(-1), BAD);
        due(21, "4", x.stranger(4), BAD);
        due(21, "missing", x.stranger(1), NOTHING);
        x.layer(0, 0);
        x.layer(5, 0);
        x.layer(2, 0);
        x.layer(4, 3);
        fill(x, 1, 0, 0, 1, 0);
        due(21, "LAYER, FREE", x.stranger(1), 1 + 4);
        x.cell(1, 2, 1);
        due(21, "TOLD", x.stranger(1), 8);
        x.cell(1, 2, 2);
        due(21, "SULKY", x.stranger(1), 2);
        x.cell(1, 0, 1);
        due(21, "none", x.stranger(1), 0);
        x.sheet(1, 0, 2);
        due(21, "too short", x.stranger(1), BAD);
        x.sheet(1, 0, 4);
        due(21, "too long", x.stranger(1), BAD);
    }

    private static void table() {
        GreaterPlates x = with(7, 5, 8);
        due(22, "no layer", x.lay(0), BAD);
        x.layer(0, 0);
        due(22, "-1", x.lay(-1), BAD);
        due(22, "7", x.lay(0), 0);
        due(22, "5", x.lay(0), 0);
        due(22, "8", x.lay(0), 1);
        due(22, "all are laid", x.lay(0), STATE);
        due(22, "BAD is named ahead of STATE", x.lay(1), BAD);
        due(28, "laid", x.count(2), 3);
        due(28, "heaps", x.count(3), 2);
        due(24, "lowest", x.on(0, 0), 0);
        due(24, "on it", x.on(0, 1), 1);
        due(24, "above", x.on(0, 2), NONE);
        due(24, "below", x.on(0, -1), NONE);
        due(24, "no heap", x.on(2, 0), BAD);
        due(24, "no heap", x.on(-1, 0), BAD);
        due(23, "no heap", x.take(2), BAD);
        due(23, "no heap", x.take(-1), BAD);
        due(23, "the top one", x.take(0), 1);
        due(24, "it is gone", x.on(0, 1), NONE);
        due(23, "the lowest", x.take(0), 0);
        due(23, "none", x.take(0), STATE);
        due(28, "laid still", x.count(2), 3);
        due(28, "heaps still", x.count(3), 2);
        due(9, "by begins without heaps", x.by(0, 0), 2);
        x.plate(6, 0);
        due(22, "another came: on 8, not on the empty heap", x.lay(0), 1);
    }

    private static void emptyHeaps() {
        GreaterPlates x = with(7, 9, 99);
        x.layer(0, 0);
        x.layer(1, 0);
        x.layer(2, 0);
        x.layer(4, 1);
        x.layer(5, 0);
        rule(x, "may 0;pays 1;weighs 1;");
        x.lay(0);
        x.lay(0);
        x.take(1);
        x.image();
        due(22, "any may lie on it", x.lay(0), 1);
        x.back();
        due(22, "rank 1000: a NEAR likes a new one", x.lay(1), 2);
        x.back();
        due(22, "a FREE lays it there", x.lay(2), 1);
        x.back();
        due(22, "a TOLD too", x.lay(3), 1);
        x.back();
        due(22, "a SULKY likes a new one", x.lay(4), 2);
        x.back();
        x.take(0);
        due(22, "of two empty ones the first", x.lay(3), 0);
        x.back();
        x.force(0);
        x.set(0, 2, 1);
        due(22, "a FREE: rank 0 is less than 1000", x.lay(2), 0);
    }

    private static void drawing() {
        GreaterPlates x = new GreaterPlates();
        due(25, "no layer", x.drawn(0, 1), BAD);
        x.layer(0, 0);
        due(25, "-1", x.drawn(-1, 1), BAD);
        due(25, "no plates", x.drawn(0, 1), 0);
        int[] sizes = {7, 2, 8, 1, 3, 4, 9, 5};
        for (int size : sizes) {
            x.plate(size, 0);
            for (int seed : new int[] {0, 1, -1, 77, Integer.MIN_VALUE, Integer.MAX_VALUE, -123456789}) {
                due(25, "drawn by " + seed, x.drawn(0, seed), heapsOfDrawn(sizes, x.count(0), seed));
            }
        }
        due(25, "the plates stay", x.by(0, 0), 4);
    }

    private static int heapsOfDrawn(int[] sizes, int n, int seed) {
        int[] row = sizes.clone();
        int z = seed;
        for (int i = 0; i <= n - 2; i++) {
            z = z * 1103515245 + 12345;
            int j = i + (z >>> 9) % (n - i);
            int one = row[i];
            row[i] = row[j];
            row[j] = one;
        }
        GreaterPlates drawn = new GreaterPlates();
        drawn.layer(0, 0);
        for (int i = 0; i < n; i++) {
            drawn.plate(row[i], 0);
        }
        return drawn.by(0, 0);
    }

    private static void images() {
        GreaterPlates x = with(7, 5, 8);
        x.layer(0, 0);
        due(27, "none", x.back(), STATE);
        x.lay(0);
        x.lay(0);
        due(26, "laid", x.image(), 2);
        x.lay(0);
        x.take(0);
        x.take(0);
        x.set(2, 0, 3);
        read(x, "may 1;pays 1;weighs 1;");
        x.force(1);
        x.plate(1, 1);
        x.layer(2, 2);
        x.set(0, 0, 70);
        x.feed('m');
        due(27, "laid", x.back(), 2);
        int[] counts = {4, 2, 2, 1, 9, 2, 1, 0};
        for (int what = 0; what < counts.length; what++) {
            due(27, "count(" + what + ")", x.count(what), counts[what]);
        }
        due(27, "a plate's size stays", x.told(0, 0), 70);
        due(27, "the heap", x.on(0, 0), 0);
        due(27, "the heap", x.on(0, 1), 1);
        due(22, "goes on", x.lay(0), 1);
        due(27, "it is kept still", x.back(), 2);
        x.lay(0);
        due(26, "a newer one", x.image(), 3);
        x.take(1);
        due(27, "the newer one", x.back(), 3);
        due(27, "its heap", x.on(1, 0), 2);
    }

    private static void sheets() {
        GreaterPlates x = new GreaterPlates();
        due(29, "sheet -1", x.sheet(-1, 0, 1), BAD);
        due(29, "sheet 4", x.sheet(4, 0, 1), BAD);
        due(29, "sort -2", x.sheet(0, -2, 1), BAD);
        due(29, "sort 3", x.sheet(0, 3, 1), BAD);
        due(29, "n 41", x.sheet(0, 0, 41), BAD);
        due(29, "n -1", x.sheet(0, 0, -1), BELOW_ZERO);
        due(29, "BAD is named ahead of -14", x.sheet(0, 3, -1), BAD);
        due(30, "sheet -1", x.cell(-1, 0, 1), BAD);
        due(30, "sheet 4", x.cell(4, 0, 1), BAD);
        due(30, "missing", x.cell(0, 0, 1), NOTHING);
        due(29, "n 40", x.sheet(0, 2, 40), 1);
        due(30, "-1", x.cell(0, -1, 1), OUTSIDE);
        due(30, "39", x.cell(0, 39, 1), 1);
        due(30, "40", x.cell(0, 40, 1), OUTSIDE);
        due(29, "missing again, n 99", x.sheet(0, -1, 99), 1);
        due(30, "missing", x.cell(0, 0, 1), NOTHING);
        due(29, "missing, n -5", x.sheet(1, -1, -5), 1);
        due(29, "n 0", x.sheet(0, 0, 0), 1);
        due(30, "none in it", x.cell(0, 0, 1), OUTSIDE);
        x.plate(1, 1);
        int[] values = {256, 65536, 65792};
        int[][] answers = {{NONE, NONE, NONE}, {0, NONE, 0}, {0, 0, 0}};
        for (int sort = 0; sort < 3; sort++) {
            for (int i = 0; i < values.length; i++) {
                fill(x, 0, sort, values[i]);
                due(30, "the lowest bits of " + values[i] + " by sort " + sort, x.judge(0), answers[sort][i]);
            }
        }
        fill(x, 0, 2, 9, 9);
        x.sheet(0, 2, 1);
        due(29, "all 0", x.judge(0), NONE);
    }

    private static void copies() {
        GreaterPlates x = new GreaterPlates();
        due(31, "sheet 4", x.copy(4, 0, 0, 0, 0), BAD);
        due(31, "other -1", x.copy(0, 0, -1, 0, 0), BAD);
        due(31, "both missing", x.copy(0, 0, 1, 0, 0), NOTHING);
        fill(x, 0, 1, 10, 11, 12, 13, 14);
        due(31, "other missing", x.copy(0, 0, 1, 0, -1), NOTHING);
        due(31, "sheet missing", x.copy(1, 0, 0, 0, -1), NOTHING);
        x.sheet(1, 0, 5);
        due(31, "unlike sorts, ahead of -12", x.copy(0, 0, 1, 0, -1), OTHER_SORT);
        x.sheet(1, 1, 3);
        int[][] outside = {{-1, 0, 1}, {0, -1, 1}, {0, 0, -1}, {3, 0, 3}, {0, 1, 3}, {6, 0, 0}, {0, 4, 0},
            {Integer.MAX_VALUE, 0, 1}, {1, 1, Integer.MAX_VALUE}, {0, 0, Integer.MIN_VALUE}};
        for (int[] o : outside) {
            due(31, "outside " + o[0] + " " + o[1] + " " + o[2], x.copy(0, o[0], 1, o[1], o[2]), OUTSIDE);
        }
        due(31, "none at the end", x.copy(0, 5, 1, 3, 0), 0);
        due(31, "three", x.copy(0, 2, 1, 0, 3), 3);
        due(31, "as they were, forward", x.copy(0, 0, 0, 1, 4), 4);
        // Now 0 is 10 10 11 12 13, and 1 is 12 13 14.
        x.plates(0, 1, 1, 2);
        x.plates(1, 1, 0, 1);
        int[] want = {10, 11, 12, 13, 12, 13};
        for (int i = 0; i < want.length; i++) {
            due(31, "came " + i, x.told(i / 2, i % 2), want[i]);
        }
        due(31, "as they were, backward", x.copy(0, 1, 0, 0, 4), 4);
        x.plates(0, 1, 0, 1);
        x.plates(0, 1, 3, 1);
        due(31, "came", x.told(3, 0) * 100 + x.told(3, 1), 1011);
        due(31, "came", x.told(4, 0) * 100 + x.told(4, 1), 1313);
    }

    private static void platesBySheet() {
        GreaterPlates x = new GreaterPlates();
        due(32, "sheet 4", x.plates(4, 0, 0, 0), BAD);
        due(32, "sort -1", x.plates(0, -1, 0, 0), BAD);
        due(32, "sort 3", x.plates(0, 3, 0, 0), BAD);
        due(32, "n -1", x.plates(0, 0, 0, -1), BAD);
        due(32, "n 9", x.plates(0, 0, 0, 9), BAD);
        due(32, "missing", x.plates(0, 0, 0, 1), NOTHING);
        fill(x, 0, 0, 1, 2, 3, 4, 100, 5, 6, 7, 8);
        due(32, "another sort", x.plates(0, 2, 0, 1), OTHER_SORT);
        due(32, "another sort, ahead of -12", x.plates(0, 2, 99, 1), OTHER_SORT);
        due(32, "none", x.plates(0, 0, 0, 0), 0);
        due(32, "from -1", x.plates(0, 0, -1, 1), OUTSIDE);
        due(32, "from MAX", x.plates(0, 0, Integer.MAX_VALUE, 2), OUTSIDE);
        due(32, "from MIN", x.plates(0, 0, Integer.MIN_VALUE, 2), OUTSIDE);
        due(28, "none came", x.count(0), 0);
        due(32, "one of them is left out", x.plates(0, 0, 0, 4), 3);
        due(32, "size", x.told(2, 0), 6);
        due(32, "depth", x.told(2, 1), 7);
        due(32, "half of one", x.plates(0, 0, 6, 2), OUTSIDE);
        due(28, "what stood ahead came", x.count(0), 4);
        due(32, "from a place on", x.plates(0, 0, 1, 3), 2);
        due(32, "size", x.told(4, 0), 2);
        x.plates(0, 0, 0, 2);
        due(28, "eight", x.count(0), 8);
        due(32, "those without room are left out", x.plates(0, 0, 0, 2), 0);
        due(32, "and what is outside is so still", x.plates(0, 0, 0, 8), OUTSIDE);
    }

    private static void takenFor() {
        int[][] under = {{0}, {0, 1}, {0, 2}, {0, 1, 3}, {0, 2, 4}, {0, 1, 5}};
        for (int kind = 0; kind <= 5; kind++) {
            GreaterPlates x = new GreaterPlates();
            x.layer(kind, 9 - kind);
            for (int k = 0; k <= 5; k++) {
                int want = OTHER_SORT;
                for (int u : under[kind]) {
                    want = u == k ? 9 - kind : want;
                }
                due(33, kind + " taken for " + k, x.taken(0, k), want);
                due(33, "no such layer", x.taken(1, k), NOTHING);
                due(33, "no such layer", x.taken(-1, k), NOTHING);
            }
            due(33, "k -1", x.taken(0, -1), BAD);
            due(33, "k 6, ahead of -11", x.taken(7, 6), BAD);
        }
    }

    /** All that can be asked without changing anything. */
    private static String seen(GreaterPlates x) {
        StringBuilder all = new StringBuilder();
        for (int what = 0; what < 8; what++) {
            all.append(x.count(what)).append(' ');
        }
        for (int i = 0; i < 8; i++) {
            for (int what = 0; what < 5; what++) {
                all.append(x.told(i, what)).append(' ');
                all.append(x.on(i, what)).append(' ');
            }
        }
        for (int i = 0; i < 5; i++) {
            all.append(x.by(i, 0)).append(' ').append(x.by(i, 1)).append(' ');
            all.append(x.judge(i)).append(' ').append(x.stranger(i)).append(' ');
        }
        return all.append(x.fewest(1)).append(' ').append(x.longest(3)).toString();
    }

    private static void refused(GreaterPlates x, String call, long want, ToLongFunction<GreaterPlates> calling) {
        String before = seen(x);
        due(0, call, calling.applyAsLong(x), want);
        due(0, call + " changes nothing", before.equals(seen(x)) ? 1 : 0, 1);
    }

    private static void refusalsChangeNothing() {
        GreaterPlates x = with(7, 2, 8, 1, 3, 4);
        x.layer(0, 0);
        x.layer(5, 3);
        x.lay(0);
        x.lay(1);
        x.take(0);
        x.take(1);
        fill(x, 0, 0, 0, 0, 1, 1, 2, 2);
        fill(x, 1, 1, 0, 1, 2);
        x.feed('m');
        refused(x, "back()", STATE, y -> y.back());
        refused(x, "take(0)", STATE, y -> y.take(0));
        refused(x, "take(2)", BAD, y -> y.take(2));
        refused(x, "lay(2)", BAD, y -> y.lay(2));
        refused(x, "plate(100, 0)", BAD, y -> y.plate(100, 0));
        refused(x, "plate(0, -1)", BAD, y -> y.plate(0, -1));
        refused(x, "layer(6, 0)", BAD, y -> y.layer(6, 0));
        refused(x, "set(0, 0, 100)", BAD, y -> y.set(0, 0, 100));
        refused(x, "set(1, 6, 1)", BAD, y -> y.set(1, 6, 1));
        refused(x, "set(2, 0, 10)", BAD, y -> y.set(2, 0, 10));
        refused(x, "feed(256)", BAD, y -> y.feed(256));
        refused(x, "force(1)", BAD, y -> y.force(1));
        refused(x, "sheet(0, 3, 1)", BAD, y -> y.sheet(0, 3, 1));
        refused(x, "sheet(0, 0, 41)", BAD, y -> y.sheet(0, 0, 41));
        refused(x, "sheet(0, 0, -1)", BELOW_ZERO, y -> y.sheet(0, 0, -1));
        refused(x, "cell(0, 6, 1)", OUTSIDE, y -> y.cell(0, 6, 1));
        refused(x, "cell(2, 0, 1)", NOTHING, y -> y.cell(2, 0, 1));
        refused(x, "copy(0, 0, 1, 0, 1)", OTHER_SORT, y -> y.copy(0, 0, 1, 0, 1));
        refused(x, "copy(0, 1, 0, 0, 6)", OUTSIDE, y -> y.copy(0, 1, 0, 0, 6));
        refused(x, "plates(0, 1, 0, 1)", OTHER_SORT, y -> y.plates(0, 1, 0, 1));
        refused(x, "plates(2, 1, 0, 1)", NOTHING, y -> y.plates(2, 1, 0, 1));
        refused(x, "plates(0, 0, 6, 1)", OUTSIDE, y -> y.plates(0, 0, 6, 1));
        refused(x, "plates(0, 0, 0, 9)", BAD, y -> y.plates(0, 0, 0, 9));
        refused(x, "mean(2, 0)", NO, y -> y.mean(2, 0));
        refused(x, "taken(0, 1)", OTHER_SORT, y -> y.taken(0, 1));
        x.plate(1, 1);
        x.plate(1, 1);
        refused(x, "a ninth plate", FULL, y -> y.plate(1, 1));
        refused(x, "orders(0, 1)", STATE, y -> y.orders(0, 1));
        refused(x, "bestOrder(0, 1)", STATE, y -> y.bestOrder(0, 1));
        refused(x, "came(0)", STATE, y -> y.came(0));
    }
}
