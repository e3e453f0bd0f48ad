/** Promises 29 to 38: a test for each sentence that names a boundary case. */
public final class ShelfEdgesTest {
    private static final int MIN = Integer.MIN_VALUE;
    private static final int MAX = Integer.MAX_VALUE;
    private static final int[] NO_SHELVES = {-1, 8, 9, 31, 32, 256, MIN, MAX};

    public static void main(String[] args) {
        noImage();
        imageOfAll();
        imageNotOfShelves();
        imageAgain();
        count();
        keep();
        keepNothing();
        keepRefused();
        row();
        rowAtFirst();
        rowRefused();
        lowestBits();
        putRefused();
        element();
        elementThrows();
        copy();
        copyOverItself();
        copyNothing();
        copyRefused();
        copyPlaces();
        cost();
        toss();
        tossWithout();
        oneRefused();
        Check.end("ShelfEdgesTest");
    }

    private static void noImage() {
        Check.sentence("THE IMAGE is RESTORED: DAY. -3 there is none");
        MoreThanSheHas x = Check.parish("p00;h0;d05;");
        String before = Check.state(x);
        Check.due("restore()", x.restore(), -3);
        Check.due("restore() again", x.restore(), -3);
        Check.dueState("restore()", x, before);
        Check.due("image()", x.image(), 5);
        Check.due("restore()", x.restore(), 5);
        MoreThanSheHas empty = new MoreThanSheHas();
        Check.due("of nobody", empty.restore(), -3);
        Check.due("image() of nobody", empty.image(), 0);
        Check.due("of nobody", empty.restore(), 0);
    }

    private static void imageOfAll() {
        Check.sentence("THE IMAGE: all that there is; RESTORED all is as it was then");
        MoreThanSheHas x = Check.parish("p09;p11;p72;l01;h0;d01;");
        String before = Check.state(x);
        Check.due("image()", x.image(), 1);
        Check.dueState("image()", x, before);
        String[] changes = {"p00;", "l02;", "l01;", "h0;", "h1;", "k000;", "k090;", "k209;h2;", "k079;", "d60;"};
        for (String change : changes) {
            x = Check.parish("p09;p11;p72;l01;h0;d01;");
            x.image();
            Check.told(x, change);
            Check.due("restore() behind " + change, x.restore(), 1);
            Check.dueState("restore() behind " + change, x, before);
        }
        Check.due("image() of DAY 999", Check.parishOn(999, "p00;").image(), 999);
        MoreThanSheHas late = Check.parish("p00;");
        late.image();
        for (int i = 0; i < 16; i++) {
            late.days(60);
        }
        late.days(39);
        Check.due("days(1)", late.days(1), -3);
        Check.due("restore() from DAY 999", late.restore(), 0);
        Check.due("days(60)", late.days(60), 0);
        MoreThanSheHas full = Check.parish("p00;p00;p00;p00;p00;p00;p00;p00;");
        full.image();
        full.keep(0, 1, 0, 0);
        Check.due("the ninth", full.comes(0), 8);
        Check.due("the tenth", full.comes(0), -2);
        full.restore();
        Check.due("room again", full.comes(0), 8);
        Check.due("and no more", full.comes(0), -2);
    }

    private static void imageNotOfShelves() {
        Check.sentence("but SHELVES (and THE IMAGE); when THE IMAGE is RESTORED, SHELVES stay as they are");
        MoreThanSheHas x = new MoreThanSheHas();
        x.keep(0, 1, 2, 5);
        Check.lay(x, 1, 2, 7);
        x.image();
        x.keep(0, 0, 0, 0);
        x.put(1, 0, 8);
        x.keep(2, 1, 0, 3);
        Check.due("restore()", x.restore(), 0);
        Check.due("a SHELF emptied", x.cost(0), -11);
        Check.dueElement(x, 1, 0, 0, 8);
        Check.due("a SHELF filled", x.toss(2), 3);
    }

    private static void imageAgain() {
        Check.sentence("THE IMAGE is taken: DAY (a later one in place of it)");
        MoreThanSheHas x = Check.parish("p00;p00;");
        Check.due("image()", x.image(), 0);
        x.days(7);
        x.line(0, 1);
        Check.due("restore()", x.restore(), 0);
        x.days(9);
        x.told(1);
        Check.due("image()", x.image(), 9);
        x.days(60);
        for (int i = 0; i < 3; i++) {
            x.told(0);
            x.line(0, 1);
            x.days(1);
            Check.due("restore()", x.restore(), 9);
            Check.due("HEARD", x.count(3), 2);
            Check.due("LINES", x.count(2), 0);
        }
    }

    private static void count() {
        Check.sentence("0 PEOPLE, 1 DAY, 2 LINES, 3 who has HEARD (bits), 4 CARDS of all; -1 for others");
        MoreThanSheHas x = Village.made();
        int[] want = {4, 1, 2, 3, 6};
        for (int what = 0; what <= 4; what++) {
            Check.due("count(" + what + ")", x.count(what), want[what]);
        }
        for (int what : new int[] {-1, 5, MIN, MAX}) {
            Village.refused("count(" + what + ")", y -> y.count(what), -1);
            Check.due("count(" + what + ") of nobody", new MoreThanSheHas().count(what), -1);
        }
        MoreThanSheHas all = KnowEdgesTest.all();
        Check.due("LINES of all", all.count(2), 36);
        Check.due("CARDS of all", all.count(4), 72);
    }

    private static void keep() {
        Check.sentence("1 a KIND of one of KIND k with a FIGURE: 0");
        for (int d = 0; d <= 7; d++) {
            MoreThanSheHas x = new MoreThanSheHas();
            for (int k = 0; k <= 7; k++) {
                int figure = k < 4 ? k : k + 2;
                Check.due("keep(" + d + ", 1, " + k + ", " + figure + ")", x.keep(d, 1, k, figure), 0);
                Check.due("comes(" + d + ")", x.comes(d), k);
                Check.due("KIND", x.one(k, 0), k);
                Check.due("FIGURE", x.one(k, 1), figure);
            }
        }
    }

    private static void keepNothing() {
        Check.sentence("what = 0 nothing (the others do not matter)");
        int[] others = {-1, 0, 7, 8, 10, MIN, MAX};
        for (int k : others) {
            for (int figure : others) {
                MoreThanSheHas x = Village.made();
                for (int d = 0; d <= 7; d++) {
                    Check.due("keep(" + d + ", 0, " + k + ", " + figure + ")", x.keep(d, 0, k, figure), 0);
                    Check.due("comes(" + d + ")", x.comes(d), -11);
                    Check.due("could(" + d + ")", x.could(d), -11);
                }
            }
        }
    }

    private static void keepRefused() {
        Check.sentence("SHELF d gets: -1");
        for (int d : NO_SHELVES) {
            Village.refused("keep(" + d + ", 0, 0, 0)", x -> x.keep(d, 0, 0, 0), -1);
            Village.refused("keep(" + d + ", 1, 0, 0)", x -> x.keep(d, 1, 0, 0), -1);
        }
        for (int no : new int[] {-1, MIN, MAX}) {
            Village.refused("keep(1, " + no + ", 0, 0)", x -> x.keep(1, no, 0, 0), -1);
            Village.refused("keep(1, 1, " + no + ", 0)", x -> x.keep(1, 1, no, 0), -1);
            Village.refused("keep(1, 1, 0, " + no + ")", x -> x.keep(1, 1, 0, no), -1);
            Village.refused("keep(2, 1, 0, " + no + ")", x -> x.keep(2, 1, 0, no), -1);
        }
        Village.refused("keep(1, 2, 0, 0)", x -> x.keep(1, 2, 0, 0), -1);
        Village.refused("keep(1, 1, 8, 0)", x -> x.keep(1, 1, 8, 0), -1);
        Village.refused("keep(1, 1, 0, 10)", x -> x.keep(1, 1, 0, 10), -1);
        Village.refused("keep(0, 1, 8, 9)", x -> x.keep(0, 1, 8, 9), -1);
    }

    private static void row() {
        Check.sentence("A ROW has a SORT (0 bytes, 1 shorts, 2 ints) and 0 .. 100 elements");
        for (int d = 0; d <= 7; d++) {
            for (int sort = 0; sort <= 2; sort++) {
                MoreThanSheHas x = new MoreThanSheHas();
                for (int n : new int[] {0, 1, 99, 100}) {
                    Check.due("row(" + d + ", " + sort + ", " + n + ")", x.row(d, sort, n), 0);
                    Check.dueElement(x, d, n, 2, 0);
                    Check.dueElement(x, d, n - 1, n == 0 ? 2 : 0, 0);
                }
            }
        }
        Check.sentence("SHELVES each hold nothing, a KIND of one, a ROW: one in place of another");
        MoreThanSheHas x = new MoreThanSheHas();
        x.keep(0, 1, 0, 1);
        Check.due("row(0, 0, 0)", x.row(0, 0, 0), 0);
        Check.due("cost(0)", x.cost(0), -12);
        Check.due("keep(0, 1, 0, 1)", x.keep(0, 1, 0, 1), 0);
        Check.due("cost(0)", x.cost(0), 1);
        Check.due("could(0)", x.could(0), -12);
        Check.lay(x, 1, 0, 'p', '0', '0', ';');
        Check.due("keep(1, 1, 0, 1)", x.keep(1, 1, 0, 1), 0);
        Check.dueElement(x, 1, 0, 2, 0);
        Check.due("put(1, 0, 1)", x.put(1, 0, 1), -12);
        Check.due("parish(1)", x.parish(1), -12);
        Check.due("copy(1, 0, 1, 0, 1)", x.copy(1, 0, 1, 0, 1), -12);
        Check.due("keep(1, 0, 0, 0)", x.keep(1, 0, 0, 0), 0);
        Check.dueElement(x, 1, 0, 2, 0);
        Check.due("put(1, 0, 1)", x.put(1, 0, 1), -11);
        Check.due("parish(1)", x.parish(1), -11);
    }

    private static void rowAtFirst() {
        Check.sentence("0 .. 100 elements, 0 at first");
        for (int sort = 0; sort <= 2; sort++) {
            MoreThanSheHas x = new MoreThanSheHas();
            x.row(3, 2, 100);
            for (int i = 0; i < 100; i++) {
                x.put(3, i, -1);
            }
            Check.due("row(3, " + sort + ", 1)", x.row(3, sort, 1), 0);
            Check.due("row(3, " + sort + ", 100)", x.row(3, sort, 100), 0);
            for (int i = 0; i < 100; i++) {
                Check.dueElement(x, 3, i, 0, 0);
            }
            Check.dueElement(x, 3, 100, 2, 0);
        }
    }

    private static void rowRefused() {
        Check.sentence("SHELF d gets a ROW of a SORT: 0. -1 (n above 100); -14");
        for (int d : NO_SHELVES) {
            Village.refused("row(" + d + ", 0, 1)", x -> x.row(d, 0, 1), -1);
            Village.refused("row(" + d + ", 0, -1)", x -> x.row(d, 0, -1), -1);
        }
        for (int sort : new int[] {-1, 3, MIN, MAX}) {
            Village.refused("row(2, " + sort + ", 1)", x -> x.row(2, sort, 1), -1);
            Village.refused("row(2, " + sort + ", -1)", x -> x.row(2, sort, -1), -1);
        }
        for (int n : new int[] {101, 128, 256, MAX}) {
            Village.refused("row(2, 0, " + n + ")", x -> x.row(2, 0, n), -1);
        }
        for (int n : new int[] {-1, -100, MIN}) {
            Village.refused("row(2, 2, " + n + ")", x -> x.row(2, 2, n), -14);
            Village.refused("row(0, 0, " + n + ")", x -> x.row(0, 0, n), -14);
        }
    }

    private static void lowestBits() {
        Check.sentence("what is put in keeps its lowest bits");
        int[] told = {127, 128, 129, 255, 256, -128, -129, -256, 32767, 32768, -32768, -32769, 65535, 65536, MAX, MIN};
        for (int sort = 0; sort <= 2; sort++) {
            MoreThanSheHas x = new MoreThanSheHas();
            x.row(0, sort, told.length);
            for (int i = 0; i < told.length; i++) {
                Check.due("put(0, " + i + ", " + told[i] + ")", x.put(0, i, told[i]), 0);
            }
            long all = sort == 0 ? 1L << 8 : sort == 1 ? 1L << 16 : 1L << 32;
            for (int i = 0; i < told.length; i++) {
                long lowest = Math.floorMod((long) told[i], all);
                Check.dueElement(x, 0, i, 0, lowest >= all / 2 ? lowest - all : lowest);
            }
        }
    }

    private static void putRefused() {
        Check.sentence("Element i of the ROW becomes v: 0. -1, -11, -12, -13");
        for (int d : NO_SHELVES) {
            Village.refused("put(" + d + ", 0, 9)", x -> x.put(d, 0, 9), -1);
        }
        int[] places = {-1, 0, 3, 100, MIN, MAX};
        for (int i : places) {
            Village.refused("put(0, " + i + ", 9), nothing", x -> x.put(0, i, 9), -11);
            Village.refused("put(1, " + i + ", 9), a KIND", x -> x.put(1, i, 9), -12);
            Village.refused("put(6, " + i + ", 9), 0 bytes", x -> x.put(6, i, 9), -13);
        }
        for (int i : new int[] {-1, 3, 99, 100, MIN, MAX}) {
            Village.refused("put(2, " + i + ", 9), of three", x -> x.put(2, i, 9), -13);
            Village.refused("put(4, " + i + ", 9), of three", x -> x.put(4, i, 9), -13);
        }
        MoreThanSheHas x = Village.made();
        Check.due("put(2, 2, 9)", x.put(2, 2, 9), 0);
        dueRow(x, 2, 1, 2, 9);
        Check.due("put(2, 0, 9)", x.put(2, 0, 9), 0);
        dueRow(x, 2, 9, 2, 9);
        x.row(2, 2, 100);
        Check.due("put(2, 99, MIN)", x.put(2, 99, MIN), 0);
        Check.dueElement(x, 2, 99, 0, MIN);
    }

    private static void element() {
        Check.sentence("Element i of the ROW");
        MoreThanSheHas x = Village.made();
        dueRow(x, 2, 1, 2, 3);
        dueRow(x, 3, 4, 5);
        dueRow(x, 4, 6, 7, 8);
        dueRow(x, 6);
        Check.due("put", x.put(4, 1, MIN), 0);
        dueRow(x, 4, 6, MIN, 8);
        Check.due("put", x.put(4, 1, MAX), 0);
        dueRow(x, 4, 6, MAX, 8);
    }

    private static void elementThrows() {
        Check.sentence("IllegalArgumentException: no such SHELF; IllegalStateException: no ROW, no such place");
        MoreThanSheHas x = Village.made();
        String before = Village.everything(x);
        for (int d : NO_SHELVES) {
            for (int i : new int[] {0, -1, MAX}) {
                Check.dueElement(x, d, i, 1, 0);
            }
        }
        for (int i : new int[] {0, -1, 1, MIN, MAX}) {
            Check.dueElement(x, 0, i, 2, 0);
            Check.dueElement(x, 1, i, 2, 0);
            Check.dueElement(x, 5, i, 2, 0);
            Check.dueElement(x, 6, i, 2, 0);
        }
        for (int i : new int[] {-1, 3, 4, 99, 100, MIN, MAX}) {
            Check.dueElement(x, 2, i, 2, 0);
            Check.dueElement(x, 4, i, 2, 0);
        }
        Check.due("nothing changes", Village.everything(x).equals(before) ? 1 : 0, 1);
    }

    private static void dueRow(MoreThanSheHas x, int d, int... want) {
        for (int i = 0; i < want.length; i++) {
            Check.dueElement(x, d, i, 0, want[i]);
        }
        Check.dueElement(x, d, want.length, 2, 0);
    }

    private static void copy() {
        Check.sentence("n elements of the ROW in SHELF d from i on come to that in SHELF e from j on: n");
        for (int sort = 0; sort <= 2; sort++) {
            MoreThanSheHas x = new MoreThanSheHas();
            Check.lay(x, 0, sort, 1, 2, 3, 4);
            Check.lay(x, 7, sort, 5, 6, 7);
            Check.due("copy(0, 3, 7, 2, 1)", x.copy(0, 3, 7, 2, 1), 1);
            dueRow(x, 7, 5, 6, 4);
            Check.due("copy(0, 1, 7, 0, 3)", x.copy(0, 1, 7, 0, 3), 3);
            dueRow(x, 7, 2, 3, 4);
            Check.due("copy(7, 0, 0, 1, 3)", x.copy(7, 0, 0, 1, 3), 3);
            dueRow(x, 0, 1, 2, 3, 4);
            Check.due("copy(7, 0, 0, 0, 3)", x.copy(7, 0, 0, 0, 3), 3);
            dueRow(x, 0, 2, 3, 4, 4);
            dueRow(x, 7, 2, 3, 4);
        }
        MoreThanSheHas full = new MoreThanSheHas();
        full.row(0, 2, 100);
        full.row(1, 2, 100);
        full.put(0, 0, 5);
        full.put(0, 99, 6);
        Check.due("copy(0, 0, 1, 0, 100)", full.copy(0, 0, 1, 0, 100), 100);
        Check.dueElement(full, 1, 0, 0, 5);
        Check.dueElement(full, 1, 99, 0, 6);
    }

    private static void copyOverItself() {
        Check.sentence("copy within one ROW, the places over each other");
        MoreThanSheHas x = new MoreThanSheHas();
        Check.lay(x, 0, 1, 1, 2, 3, 4, 5);
        Check.due("copy(0, 0, 0, 1, 4)", x.copy(0, 0, 0, 1, 4), 4);
        dueRow(x, 0, 1, 1, 2, 3, 4);
        Check.due("copy(0, 1, 0, 0, 4)", x.copy(0, 1, 0, 0, 4), 4);
        dueRow(x, 0, 1, 2, 3, 4, 4);
        Check.due("copy(0, 0, 0, 0, 5)", x.copy(0, 0, 0, 0, 5), 5);
        dueRow(x, 0, 1, 2, 3, 4, 4);
    }

    private static void copyNothing() {
        Check.sentence("copy of 0 elements: a place that isn't there");
        int[][] calls = {{0, 0, 0}, {3, 0, 0}, {0, 3, 0}, {3, 3, 0}, {4, 0, -13}, {0, 4, -13}, {-1, 0, -13}, {0, -1, -13}};
        for (int[] c : calls) {
            Village.refused("copy(4, " + c[0] + ", 4, " + c[1] + ", 0)", x -> x.copy(4, c[0], 4, c[1], 0), c[2]);
        }
        Village.refused("copy(6, 0, 6, 0, 0)", x -> x.copy(6, 0, 6, 0, 0), 0);
        Village.refused("copy(6, 0, 2, 3, 0)", x -> x.copy(6, 0, 2, 3, 0), 0);
        Village.refused("copy(6, 1, 2, 0, 0)", x -> x.copy(6, 1, 2, 0, 0), -13);
        Village.refused("copy(6, 0, 2, 0, 1)", x -> x.copy(6, 0, 2, 0, 1), -13);
    }

    private static void copyRefused() {
        Check.sentence("copy: n. -1, -11 (either), -12 (no ROWS of one SORT), -13 (n below 0, too)");
        for (int d : NO_SHELVES) {
            for (int e : new int[] {0, 1, 2, d}) {
                Village.refused("copy(" + d + ", 0, " + e + ", 0, -1)", x -> x.copy(d, 0, e, 0, -1), -1);
                Village.refused("copy(" + e + ", 0, " + d + ", 0, 1)", x -> x.copy(e, 0, d, 0, 1), -1);
            }
        }
        for (int e = 0; e <= 7; e++) {
            int other = e;
            Village.refused("copy(0, 0, " + other + ", 0, -1), nothing", x -> x.copy(0, 0, other, 0, -1), -11);
            Village.refused("copy(" + other + ", -1, 0, 0, 1), nothing", x -> x.copy(other, -1, 0, 0, 1), -11);
        }
        for (int e = 1; e <= 7; e++) {
            int other = e;
            Village.refused("copy(1, 0, " + other + ", 0, -1), a KIND", x -> x.copy(1, 0, other, 0, -1), -12);
            Village.refused("copy(" + other + ", -1, 5, 0, 1), a KIND", x -> x.copy(other, -1, 5, 0, 1), -12);
        }
        int[][] sorts = {{2, 3}, {2, 4}, {3, 4}, {3, 2}, {4, 2}, {4, 3}, {6, 3}};
        for (int[] s : sorts) {
            Village.refused("copy(" + s[0] + ", 0, " + s[1] + ", 0, 0)", x -> x.copy(s[0], 0, s[1], 0, 0), -12);
            Village.refused("copy(" + s[0] + ", -1, " + s[1] + ", 0, -1)", x -> x.copy(s[0], -1, s[1], 0, -1), -12);
        }
    }

    private static void copyPlaces() {
        Check.sentence("-13 a place that isn't there (a number or a size that isn't as told, too)");
        // the ROW has 22 elements from place i on at most, the other one 3 from place j on
        int[][] calls = {
            {0, 0, -1}, {0, 0, MIN}, {0, 0, 4}, {0, 0, MAX}, {0, 1, 3}, {0, 2, 2}, {0, 3, 1}, {0, 4, 1},
            {22, 0, 1}, {21, 0, 2}, {20, 0, 3}, {23, 0, 1}, {-1, 0, 1}, {0, -1, 1}, {MIN, 0, 1}, {0, MIN, 1},
            {MAX, 0, 1}, {0, MAX, 1}, {MAX, MAX, MAX}, {1, 1, MAX}, {MAX, 0, MIN}, {-1, -1, -1}, {-1, 0, 2}, {0, -1, 2}
        };
        for (int[] c : calls) {
            Village.refused("copy(7, " + c[0] + ", 2, " + c[1] + ", " + c[2] + ")", x -> x.copy(7, c[0], 2, c[1], c[2]), -13);
        }
        MoreThanSheHas x = Village.made();
        Check.due("copy(7, 19, 2, 0, 3)", x.copy(7, 19, 2, 0, 3), 3);
        dueRow(x, 2, '0', '1', ';');
        Check.due("copy(2, 0, 7, 19, 3)", x.copy(2, 0, 7, 19, 3), 3);
        Check.due("copy(2, 0, 7, 20, 3)", x.copy(2, 0, 7, 20, 3), -13);
        Check.due("copy(2, 2, 7, 21, 1)", x.copy(2, 2, 7, 21, 1), 1);
    }

    private static int held(int k, int figure, boolean cost) {
        MoreThanSheHas x = new MoreThanSheHas();
        Check.due("keep(7, 1, " + k + ", " + figure + ")", x.keep(7, 1, k, figure), 0);
        int answer = cost ? x.cost(7) : x.toss(7);
        Check.due("what is taken from a SHELF, stays there", cost ? x.cost(7) : x.toss(7), answer);
        return answer;
    }

    private static void cost() {
        Check.sentence("COST of the one on SHELF d");
        for (int f = 0; f <= 9; f++) {
            int[] want = {1, 2, 1 + f, 5, 2 + 2 * f, 1, 11, 5};
            for (int k = 0; k <= 7; k++) {
                Check.due("cost of KIND " + k + ", FIGURE " + f, held(k, f, true), want[k]);
            }
        }
    }

    private static void toss() {
        Check.sentence("its FIGURE; of GOSSIPS 100 more (of VICARS, too); of BELLS 200 plus their COST, in place of all that");
        for (int f = 1; f <= 9; f++) {
            Check.due("PERSON " + f, held(0, f, false), f);
            Check.due("GOSSIP " + f, held(2, f, false), 100 + f);
            Check.due("VICAR " + f, held(4, f, false), 100 + f);
            Check.due("BELL " + f, held(6, f, false), 211);
        }
    }

    private static void tossWithout() {
        Check.sentence("-15: SHY ones, HERMITS, SNOBS, DEAF ones, and any with FIGURE 0, have none");
        for (int f = 0; f <= 9; f++) {
            for (int k : new int[] {1, 3, 5, 7}) {
                Check.due("KIND " + k + ", FIGURE " + f, held(k, f, false), -15);
            }
        }
        for (int k = 0; k <= 7; k++) {
            Check.due("KIND " + k + ", FIGURE 0", held(k, 0, false), -15);
        }
        Village.refused("toss(5)", x -> x.toss(5), -15);
    }

    private static void oneRefused() {
        Check.sentence("of the one on SHELF d: -1, -11, -12 (a ROW)");
        for (int d : NO_SHELVES) {
            Village.refused("cost(" + d + ")", x -> x.cost(d), -1);
            Village.refused("toss(" + d + ")", x -> x.toss(d), -1);
        }
        Village.refused("cost(0), nothing", x -> x.cost(0), -11);
        Village.refused("toss(0), nothing", x -> x.toss(0), -11);
        for (int d : new int[] {2, 3, 4, 6, 7}) {
            Village.refused("cost(" + d + "), a ROW", x -> x.cost(d), -12);
            Village.refused("toss(" + d + "), a ROW", x -> x.toss(d), -12);
        }
        Village.refused("cost(1)", x -> x.cost(1), 6);
        Village.refused("toss(1)", x -> x.toss(1), 105);
    }
}
