/** Promises 8 to 11: who knows more. */
public final class KnowsTest {
    private static final String STAR = "p00;p00;p00;p00;l01;l02;l03;";
    /** 0 - 1 - 2 - 3 with 1 - 3 too, and 4 alone. */
    private static final String KITE = "p00;p00;p00;p00;p00;l01;l12;l23;l13;";

    public static void main(String[] args) {
        mean();
        known();
        feels();
        fallOut();
        meet();
        Check.end("KnowsTest");
    }

    private static void mean() {
        MoreThanSheHas x = new MoreThanSheHas();
        Check.dueFraction("mean of nobody", x.mean(0), x.mean(1), 0, 1);
        x = Check.parish("p00;p00;p00;");
        Check.dueFraction("mean without LINES", x.mean(0), x.mean(1), 0, 1);
        x.line(0, 1);
        Check.dueFraction("mean of one LINE", x.mean(0), x.mean(1), 2, 3);
        x = Check.parish(KITE);
        Check.dueFraction("mean of the kite", x.mean(0), x.mean(1), 8, 5);
        x.line(0, 4);
        Check.dueFraction("mean of five LINES", x.mean(0), x.mean(1), 2, 1);
        Check.due("mean(2)", x.mean(2), Check.LONG_MINUS_1);
        Check.due("mean(-1)", x.mean(-1), Check.LONG_MINUS_1);
        Check.due("mean(MIN)", x.mean(Integer.MIN_VALUE), Check.LONG_MINUS_1);
        Check.due("mean(2) of nobody", new MoreThanSheHas().mean(2), Check.LONG_MINUS_1);
    }

    private static void known() {
        MoreThanSheHas x = new MoreThanSheHas();
        Check.dueFraction("known by LINES, nobody", x.known(0, 0), x.known(0, 1), 0, 1);
        Check.dueFraction("known by PEOPLE, nobody", x.known(1, 0), x.known(1, 1), 0, 1);
        x = Check.parish("p00;p00;");
        Check.dueFraction("known by LINES, none", x.known(0, 0), x.known(0, 1), 0, 1);
        Check.dueFraction("known by PEOPLE, none", x.known(1, 0), x.known(1, 1), 0, 1);
        x = Check.parish(STAR);
        Check.dueFraction("known by LINES, star", x.known(0, 0), x.known(0, 1), 2, 1);
        Check.dueFraction("known by PEOPLE, star", x.known(1, 0), x.known(1, 1), 5, 2);
        // NUMBERS 1 3 2 2 0: by LINES (1 + 9 + 4 + 4) / 8; by PEOPLE (3 + 5/3 + 5/2 + 5/2) / 4
        x = Check.parish(KITE);
        Check.dueFraction("known by LINES, kite", x.known(0, 0), x.known(0, 1), 9, 4);
        Check.dueFraction("known by PEOPLE, kite", x.known(1, 0), x.known(1, 1), 29, 12);
        Check.due("known(2, 0)", x.known(2, 0), Check.LONG_MINUS_1);
        Check.due("known(-1, 1)", x.known(-1, 1), Check.LONG_MINUS_1);
        Check.due("known(0, 2)", x.known(0, 2), Check.LONG_MINUS_1);
        Check.due("known(1, -1)", x.known(1, -1), Check.LONG_MINUS_1);
    }

    private static void feels() {
        Check.due("feels() of nobody", new MoreThanSheHas().feels(), 0);
        Check.due("feels() of the star", Check.parish(STAR).feels(), 14);
        MoreThanSheHas x = Check.parish(KITE);
        Check.due("feels() of the kite", x.feels(), 13);
        for (int p = 0; p < 5; p++) {
            Check.due("one(" + p + ", 7)", x.one(p, 7), 13 >> p & 1);
        }
        // as many as they know on the mean is not fewer
        Check.due("feels() of a ring", Check.parish("p00;p00;p00;l01;l12;l20;").feels(), 0);
        Check.due("feels() of two and one", Check.parish("p00;p00;p00;l01;").feels(), 0);
        // 1 KNOWS two of NUMBERS 1 and 3, on the mean just its own 2
        Check.due("feels() of the mean itself", Check.parish("p00;p00;p00;p00;p00;l01;l12;l23;l24;").feels(), 25);
    }

    private static void fallOut() {
        Check.due("fall(0) of nobody", new MoreThanSheHas().fall(0), -4);
        MoreThanSheHas star = Check.parish(STAR);
        Check.due("fall(0) of the star", star.fall(0), 1);
        Check.due("it does not happen", star.count(2), 3);
        Check.due("fall(0) of a ring", Check.parish("p00;p00;p00;l01;l12;l20;").fall(0), -4);
        // 0 feels it, and 2 and 3: without 0 1 nobody does
        Check.due("fall(0) of the kite", Check.parish(KITE).fall(0), 1);
        Check.due("the best, not the first", Check.parish("p00;p00;p00;p00;p00;l04;l14;l23;l24;l34;").fall(0), 4);
        // 2 - 1 - 3 - 0: both ends feel it, and nobody does without the middle
        MoreThanSheHas path = Check.parish("p00;p00;p00;p00;l12;l13;l30;");
        Check.due("fall(0) of a path", path.fall(0), 13);
        Check.due("fall(2)", path.fall(2), -1);
        Check.due("fall(-1)", path.fall(-1), -1);
    }

    private static void meet() {
        Check.due("fall(1) of nobody", new MoreThanSheHas().fall(1), -4);
        Check.due("fall(1) of the star", Check.parish(STAR).fall(1), -4);
        Check.due("fall(1) of one way of three", Check.parish("p00;p00;p00;l01;l12;").fall(1), 2);
        MoreThanSheHas path = Check.parish("p00;p00;p00;p00;l01;l12;l23;");
        Check.due("fall(1) of one way of four", path.fall(1), 3);
        Check.due("it does not happen", path.count(2), 3);
        Check.due("all KNOW each other", Check.parish("p00;p00;p00;l01;l12;l20;").fall(1), -4);
        Check.due("fall(3)", path.fall(3), -1);
    }
}
