/** Promises 29 to 38: the image, what is told, shelves. */
public final class ShelvesTest {
    public static void main(String[] args) {
        image();
        count();
        keep();
        row();
        put();
        element();
        copy();
        copyRefused();
        costAndToss();
        Check.end("ShelvesTest");
    }

    private static void image() {
        MoreThanSheHas x = new MoreThanSheHas();
        Check.due("restore() ahead of an image", x.restore(), -3);
        Check.due("image() of nobody", x.image(), 0);
        Check.due("p00;p55;l01;h0;d02;", Check.told(x, "p00;p55;l01;h0;d02;"), 5);
        Check.due("restore()", x.restore(), 0);
        Check.due("nobody", x.count(0), 0);
        Check.due("not on DAY 2", x.count(1), 0);
        Check.due("nobody has HEARD", x.count(3), 0);
        Check.due("p00;p55;p70;l01;h0;d02;", Check.told(x, "p00;p55;p70;l01;h0;d02;"), 6);
        String before = Check.state(x);
        Check.due("image()", x.image(), 2);
        Check.due("image() again", x.image(), 2);
        Check.due("others", Check.told(x, "k032;p11;l02;l01;k100;k200;h2;h1;d09;"), 9);
        x.keep(4, 1, 2, 2);
        Check.due("restore()", x.restore(), 2);
        Check.dueState("restore()", x, before);
        Check.due("told(2), DEAF as then", x.told(2), -3);
        Check.due("SHELVES stay as they are", x.cost(4), 3);
        x.days(5);
        x.told(0);
        Check.due("restore() again", x.restore(), 2);
        Check.dueState("restore() again", x, before);
        x.comes(4);
        Check.due("a new one KNOWS nobody", x.one(3, 3), 0);
    }

    private static void count() {
        MoreThanSheHas x = Check.parish("p00;p24;p70;l01;l02;h1;d07;");
        int[] want = {3, 7, 2, 3, 7};
        for (int what = 0; what < want.length; what++) {
            Check.due("count(" + what + ")", x.count(what), want[what]);
        }
        Check.due("count(5)", x.count(5), -1);
        Check.due("count(-1)", x.count(-1), -1);
        Check.due("count(MAX)", x.count(Integer.MAX_VALUE), -1);
    }

    private static void keep() {
        MoreThanSheHas x = new MoreThanSheHas();
        Check.due("keep(0, 1, 7, 9)", x.keep(0, 1, 7, 9), 0);
        Check.due("comes(0)", x.comes(0), 0);
        Check.due("one(0, 0)", x.one(0, 0), 7);
        Check.due("one(0, 1)", x.one(0, 1), 9);
        Check.due("keep(0, 1, 0, 0)", x.keep(0, 1, 0, 0), 0);
        Check.due("keep(8, 1, 0, 0)", x.keep(8, 1, 0, 0), -1);
        Check.due("keep(-1, 1, 0, 0)", x.keep(-1, 1, 0, 0), -1);
        Check.due("keep(8, 0, 0, 0)", x.keep(8, 0, 0, 0), -1);
        Check.due("keep(0, 2, 0, 0)", x.keep(0, 2, 0, 0), -1);
        Check.due("keep(0, -1, 0, 0)", x.keep(0, -1, 0, 0), -1);
        Check.due("keep(0, 1, 8, 0)", x.keep(0, 1, 8, 0), -1);
        Check.due("keep(0, 1, -1, 0)", x.keep(0, 1, -1, 0), -1);
        Check.due("keep(0, 1, 0, 10)", x.keep(0, 1, 0, 10), -1);
        Check.due("keep(0, 1, 0, -1)", x.keep(0, 1, 0, -1), -1);
        Check.due("nothing changes", x.cost(0), 1);
        Check.due("keep(0, 0, 99, 99)", x.keep(0, 0, 99, 99), 0);
        Check.due("cost(0)", x.cost(0), -11);
        Check.due("keep(7, 1, 2, 3)", x.keep(7, 1, 2, 3), 0);
        Check.due("cost(7)", x.cost(7), 4);
        Check.lay(x, 7, 0, 1);
        Check.due("keep(7, 1, 2, 4)", x.keep(7, 1, 2, 4), 0);
        Check.due("a KIND in place of a ROW", x.cost(7), 5);
        Check.dueElement(x, 7, 0, 2, 0);
    }

    private static void row() {
        MoreThanSheHas x = new MoreThanSheHas();
        Check.due("row(8, 0, 0)", x.row(8, 0, 0), -1);
        Check.due("row(-1, 0, 0)", x.row(-1, 0, 0), -1);
        Check.due("row(0, 3, 0)", x.row(0, 3, 0), -1);
        Check.due("row(0, -1, 0)", x.row(0, -1, 0), -1);
        Check.due("row(0, 0, 101)", x.row(0, 0, 101), -1);
        Check.due("row(0, 0, MAX)", x.row(0, 0, Integer.MAX_VALUE), -1);
        Check.due("row(0, 0, -1)", x.row(0, 0, -1), -14);
        Check.due("row(0, 0, MIN)", x.row(0, 0, Integer.MIN_VALUE), -14);
        Check.due("row(8, 0, -1)", x.row(8, 0, -1), -1);
        Check.due("row(0, 3, -1)", x.row(0, 3, -1), -1);
        Check.due("nothing changes", x.cost(0), -11);
        Check.due("row(0, 2, 100)", x.row(0, 2, 100), 0);
        Check.dueElement(x, 0, 0, 0, 0);
        Check.dueElement(x, 0, 99, 0, 0);
        x.put(0, 99, 5);
        x.put(0, 0, 6);
        Check.due("row(0, 2, 101)", x.row(0, 2, 101), -1);
        Check.dueElement(x, 0, 99, 0, 5);
        Check.due("row(0, 2, 1)", x.row(0, 2, 1), 0);
        Check.dueElement(x, 0, 0, 0, 0);
        Check.dueElement(x, 0, 1, 2, 0);
        Check.due("row(0, 2, 100)", x.row(0, 2, 100), 0);
        Check.dueElement(x, 0, 99, 0, 0);
        Check.due("row(0, 1, 0)", x.row(0, 1, 0), 0);
        Check.dueElement(x, 0, 0, 2, 0);
        Check.due("cost(0)", x.cost(0), -12);
    }

    private static void put() {
        MoreThanSheHas x = new MoreThanSheHas();
        Check.due("put(8, 0, 0)", x.put(8, 0, 0), -1);
        Check.due("put(-1, 0, 0)", x.put(-1, 0, 0), -1);
        Check.due("put(0, 0, 0)", x.put(0, 0, 0), -11);
        x.keep(0, 1, 0, 0);
        Check.due("put(0, 0, 0)", x.put(0, 0, 0), -12);
        Check.due("put(0, -1, 0)", x.put(0, -1, 0), -12);
        int[] told = {127, 128, 255, 256, -129, 32767, 32768, 65535, 65536, -32769, Integer.MAX_VALUE, Integer.MIN_VALUE};
        int[][] want = {
            {127, -128, -1, 0, 127, -1, 0, -1, 0, -1, -1, 0},
            {127, 128, 255, 256, -129, 32767, -32768, -1, 0, 32767, -1, 0},
            told
        };
        for (int sort = 0; sort <= 2; sort++) {
            x.row(0, sort, told.length);
            for (int i = 0; i < told.length; i++) {
                Check.due("put(0, " + i + ", " + told[i] + ")", x.put(0, i, told[i]), 0);
                Check.dueElement(x, 0, i, 0, want[sort][i]);
            }
        }
        Check.due("put(0, -1, 0)", x.put(0, -1, 0), -13);
        Check.due("put(0, 12, 0)", x.put(0, 12, 0), -13);
        Check.due("put(0, 99, 0)", x.put(0, 99, 0), -13);
        Check.due("put(0, 100, 0)", x.put(0, 100, 0), -13);
        Check.due("put(0, MIN, 0)", x.put(0, Integer.MIN_VALUE, 0), -13);
    }

    private static void element() {
        MoreThanSheHas x = new MoreThanSheHas();
        Check.dueElement(x, -1, 0, 1, 0);
        Check.dueElement(x, 8, 0, 1, 0);
        Check.dueElement(x, 8, -1, 1, 0);
        Check.dueElement(x, 0, 0, 2, 0);
        x.keep(0, 1, 0, 0);
        Check.dueElement(x, 0, 0, 2, 0);
        Check.lay(x, 0, 1, 7, 8);
        Check.dueElement(x, 0, 0, 0, 7);
        Check.dueElement(x, 0, 1, 0, 8);
        Check.dueElement(x, 0, 2, 2, 0);
        Check.dueElement(x, 0, -1, 2, 0);
        Check.dueElement(x, 0, 100, 2, 0);
        Check.dueElement(x, 0, Integer.MAX_VALUE, 2, 0);
        x.keep(0, 0, 0, 0);
        Check.dueElement(x, 0, 0, 2, 0);
    }

    private static void dueRow(MoreThanSheHas x, int d, int... want) {
        for (int i = 0; i < want.length; i++) {
            Check.dueElement(x, d, i, 0, want[i]);
        }
        Check.dueElement(x, d, want.length, 2, 0);
    }

    private static void copy() {
        MoreThanSheHas x = new MoreThanSheHas();
        Check.lay(x, 0, 2, 1, 2, 3, 4, 5);
        Check.lay(x, 1, 2, 9, 9, 9);
        Check.due("copy(0, 1, 1, 0, 2)", x.copy(0, 1, 1, 0, 2), 2);
        dueRow(x, 1, 2, 3, 9);
        dueRow(x, 0, 1, 2, 3, 4, 5);
        Check.due("copy(0, 0, 0, 1, 4)", x.copy(0, 0, 0, 1, 4), 4);
        dueRow(x, 0, 1, 1, 2, 3, 4);
        Check.due("copy(0, 2, 0, 0, 3)", x.copy(0, 2, 0, 0, 3), 3);
        dueRow(x, 0, 2, 3, 4, 3, 4);
        Check.due("copy(0, 0, 1, 0, 3)", x.copy(0, 0, 1, 0, 3), 3);
        dueRow(x, 1, 2, 3, 4);
        Check.due("copy(0, 0, 1, 0, 0)", x.copy(0, 0, 1, 0, 0), 0);
        Check.due("copy(0, 5, 1, 3, 0)", x.copy(0, 5, 1, 3, 0), 0);
        Check.due("copy(0, 5, 1, 3, 1)", x.copy(0, 5, 1, 3, 1), -13);
        Check.due("copy(0, 6, 1, 0, 0)", x.copy(0, 6, 1, 0, 0), -13);
        Check.due("copy(0, 0, 1, 4, 0)", x.copy(0, 0, 1, 4, 0), -13);
        Check.due("copy(0, 4, 1, 2, 1)", x.copy(0, 4, 1, 2, 1), 1);
        dueRow(x, 1, 2, 3, 4);
        Check.due("copy(0, 3, 1, 0, 2)", x.copy(0, 3, 1, 0, 2), 2);
        dueRow(x, 1, 3, 4, 4);
    }

    private static void copyRefused() {
        MoreThanSheHas x = new MoreThanSheHas();
        Check.lay(x, 0, 0, 1, 2, 3);
        Check.lay(x, 1, 0, 4, 5);
        Check.lay(x, 2, 1, 6, 7);
        x.keep(3, 1, 0, 0);
        int max = Integer.MAX_VALUE;
        int min = Integer.MIN_VALUE;
        int[][] calls = {
            {-1, 0, 1, 0, 1, -1}, {8, 0, 1, 0, 1, -1}, {0, 0, -1, 0, 1, -1}, {0, 0, 8, 0, 1, -1},
            {4, 0, 8, 0, 1, -1}, {8, 0, 4, 0, 1, -1},
            {4, 0, 1, 0, 1, -11}, {0, 0, 4, 0, 1, -11}, {4, 0, 3, 0, 1, -11}, {3, 0, 4, 0, 1, -11},
            {3, 0, 1, 0, 1, -12}, {0, 0, 3, 0, 1, -12}, {3, 0, 3, 0, 1, -12},
            {0, 0, 2, 0, 1, -12}, {2, 0, 0, 0, 1, -12}, {0, -1, 2, 0, -1, -12},
            {0, 0, 1, 0, -1, -13}, {0, -1, 1, 0, 1, -13}, {0, 0, 1, -1, 1, -13}, {0, 0, 1, 0, 3, -13},
            {1, 0, 0, 0, 3, -13}, {0, 2, 1, 0, 2, -13}, {0, 0, 1, 1, 2, -13}, {0, 3, 1, 0, 1, -13},
            {0, max, 1, 0, 1, -13}, {0, 0, 1, max, 1, -13}, {0, 0, 1, 0, max, -13}, {0, 1, 1, 1, max, -13},
            {0, min, 1, 0, 1, -13}, {0, 0, 1, min, 1, -13}, {0, 0, 1, 0, min, -13}, {0, 2, 1, 1, min, -13}
        };
        for (int[] c : calls) {
            String call = "copy(" + c[0] + ", " + c[1] + ", " + c[2] + ", " + c[3] + ", " + c[4] + ")";
            Check.due(call, x.copy(c[0], c[1], c[2], c[3], c[4]), c[5]);
        }
        dueRow(x, 0, 1, 2, 3);
        dueRow(x, 1, 4, 5);
        dueRow(x, 2, 6, 7);
    }

    /** By KIND, for FIGURES 0, 1 and 7. */
    private static void costAndToss() {
        int[] figures = {0, 1, 7};
        int[][] costs = {{1, 1, 1}, {2, 2, 2}, {1, 2, 8}, {5, 5, 5}, {2, 4, 16}, {1, 1, 1}, {11, 11, 11}, {5, 5, 5}};
        int[][] tosses = {{-15, 1, 7}, {-15, -15, -15}, {-15, 101, 107}, {-15, -15, -15},
            {-15, 101, 107}, {-15, -15, -15}, {-15, 211, 211}, {-15, -15, -15}};
        MoreThanSheHas x = new MoreThanSheHas();
        for (int k = 0; k < 8; k++) {
            for (int i = 0; i < figures.length; i++) {
                x.keep(5, 1, k, figures[i]);
                Check.due("cost of KIND " + k + ", FIGURE " + figures[i], x.cost(5), costs[k][i]);
                Check.due("toss of KIND " + k + ", FIGURE " + figures[i], x.toss(5), tosses[k][i]);
                Check.due("it stays there", x.cost(5), costs[k][i]);
            }
        }
        Check.lay(x, 6, 0, 1);
        int[] shelves = {-1, 8, 0, 6};
        int[] want = {-1, -1, -11, -12};
        for (int i = 0; i < shelves.length; i++) {
            Check.due("cost(" + shelves[i] + ")", x.cost(shelves[i]), want[i]);
            Check.due("toss(" + shelves[i] + ")", x.toss(shelves[i]), want[i]);
        }
    }
}
