/** Promises 8 to 13: a test for each sentence that names a boundary case. */
public final class KnowEdgesTest {
    private static final String THREE = "p00;p00;p00;";
    private static final String NINE = THREE + THREE + THREE;
    private static final long NO = 1000000001L;
    private static final int MIN = Integer.MIN_VALUE;
    private static final int MAX = Integer.MAX_VALUE;
    private static final int[] NO_PARTS = {-1, 2, MIN, MAX};
    private static final int[] NO_ONES = {-1, 4, 8, 9, 31, 32, MIN, MAX};

    public static void main(String[] args) {
        mean();
        knownByLines();
        knownByPeople();
        fractionsRefused();
        feels();
        fallOut();
        meet();
        fallRefused();
        far();
        farRefused();
        wide();
        parts();
        bridges();
        Check.end("KnowEdgesTest");
    }

    /** Nine who all KNOW each other. */
    static MoreThanSheHas all() {
        MoreThanSheHas x = Check.parish(NINE);
        for (int a = 0; a < 9; a++) {
            for (int b = 0; b < a; b++) {
                x.line(a, b);
            }
        }
        return x;
    }

    private static void dueMean(MoreThanSheHas x, long above, long below) {
        Check.dueFraction("mean", x.mean(0), x.mean(1), above, below);
    }

    private static void mean() {
        Check.sentence("MEAN of NUMBERS: a fraction in least terms (0 by 1 of nobody)");
        dueMean(new MoreThanSheHas(), 0, 1);
        dueMean(Check.parish("p00;"), 0, 1);
        dueMean(Check.parish(NINE), 0, 1);
        dueMean(Check.parish(NINE + "l01;"), 2, 9);
        dueMean(Check.parish(NINE + "l01;l12;l20;"), 2, 3);
        dueMean(Check.parish(THREE + "l01;l12;l20;"), 2, 1);
        dueMean(all(), 8, 1);
    }

    private static void dueKnown(MoreThanSheHas x, int by, long above, long below) {
        Check.dueFraction("known(" + by + ")", x.known(by, 0), x.known(by, 1), above, below);
    }

    private static void knownByLines() {
        Check.sentence("by LINES: the mean of NUMBERS of both ends of all LINES (0 by 1 without LINES)");
        dueKnown(new MoreThanSheHas(), 0, 0, 1);
        dueKnown(Check.parish("p00;"), 0, 0, 1);
        dueKnown(Check.parish(NINE), 0, 0, 1);
        dueKnown(Check.parish(NINE + "l01;l01;"), 0, 0, 1);
        dueKnown(Check.parish(NINE + "l78;"), 0, 1, 1);
        dueKnown(Check.parish(NINE + "l01;l12;"), 0, 3, 2);
        dueKnown(Check.parish(NINE + "l01;l12;l34;"), 0, 4, 3);
        dueKnown(all(), 0, 8, 1);
    }

    private static void knownByPeople() {
        Check.sentence("BY PEOPLE: the mean, over all who KNOW somebody (0 by 1 of none)");
        dueKnown(new MoreThanSheHas(), 1, 0, 1);
        dueKnown(Check.parish("p00;"), 1, 0, 1);
        dueKnown(Check.parish(NINE), 1, 0, 1);
        dueKnown(Check.parish(NINE + "l01;l01;"), 1, 0, 1);
        dueKnown(Check.parish(NINE + "l78;"), 1, 1, 1);
        dueKnown(Check.parish(NINE + "l01;l12;"), 1, 5, 3);
        dueKnown(Check.parish(NINE + "l01;l12;l34;"), 1, 7, 5);
        dueKnown(Check.parish(NINE + "l80;l81;l82;l83;l84;l85;l86;l87;"), 1, 65, 9);
        // 2 KNOWS five: a mean by fifths beside means by thirds and sevenths
        dueKnown(Check.parish(NINE + "l01;l02;l03;l04;l05;l06;l07;l12;l13;l24;l25;l26;l38;"), 1, 4456, 945);
        dueKnown(all(), 1, 8, 1);
    }

    private static void fractionsRefused() {
        Check.sentence("part 0 above, 1 below the line. Refused as told: -1, of longs 1000000001");
        for (int part : NO_PARTS) {
            Village.refused("mean(" + part + ")", x -> x.mean(part), NO);
            Village.refused("known(0, " + part + ")", x -> x.known(0, part), NO);
            Village.refused("known(1, " + part + ")", x -> x.known(1, part), NO);
            Check.due("mean(" + part + ") of nobody", new MoreThanSheHas().mean(part), NO);
            Check.due("known(0, " + part + ") of nobody", new MoreThanSheHas().known(0, part), NO);
            Check.due("known(1, " + part + ") of nobody", new MoreThanSheHas().known(1, part), NO);
        }
        for (int by : new int[] {-1, 2, MIN, MAX}) {
            Village.refused("known(" + by + ", 0)", x -> x.known(by, 0), NO);
            Village.refused("known(" + by + ", 1)", x -> x.known(by, 1), NO);
            Village.refused("known(" + by + ", 2)", x -> x.known(by, 2), NO);
        }
    }

    private static void feels() {
        Check.sentence("FEELS: PEOPLE (bits) who KNOW fewer than those they KNOW do on the mean");
        Check.due("nobody", new MoreThanSheHas().feels(), 0);
        Check.due("who KNOW nobody", Check.parish(NINE).feels(), 0);
        Check.due("all", all().feels(), 0);
        Check.due("just as many", Check.parish(NINE + "l01;").feels(), 0);
        Check.due("the last one", Check.parish(NINE + "l78;l67;").feels(), 320);
        // 0 KNOWS 2, and those it KNOWS 1 and 3; then 2 and 3, then 1 and 2
        Check.due("as many as on the mean", Check.parish(NINE + "l01;l02;l23;l24;").feels() & 1, 0);
        Check.due("just fewer", Check.parish(NINE + "l01;l02;l15;l23;l24;").feels() & 1, 1);
        Check.due("just more", Check.parish(NINE + "l01;l02;l23;").feels() & 1, 0);
    }

    private static void dueFall(String text, int what, int want) {
        MoreThanSheHas x = Check.parish(text);
        String before = Check.state(x);
        Check.due("fall(" + what + ") of " + text, x.fall(what), want);
        Check.dueState("fall(" + what + ")", x, before);
    }

    private static void fallOut() {
        Check.sentence("FALL OUT: the LINE (10 the lesser and the other) which, no more, lets fewest FEEL it");
        dueFall(THREE + "p00;l10;l21;l32;", 0, 12);
        dueFall(THREE + "p00;l10;l31;l32;", 0, 13);
        dueFall(THREE + THREE + THREE + "l78;l76;", 0, 67);
        Check.sentence("FALL OUT: of several the first");
        dueFall(THREE + THREE + "l01;l12;l34;l45;", 0, 1);
        dueFall(THREE + THREE + "l10;l20;l43;l53;", 0, 1);
        Check.sentence("FALL OUT: fewer than now; -4");
        Check.due("two feel it", Integer.bitCount(Check.parish(THREE + "p00;p00;l01;l12;l23;l34;").feels()), 2);
        dueFall(THREE + "p00;p00;l01;l12;l23;l34;", 0, -4);
        dueFall(THREE + "l01;l12;l20;", 0, -4);
        dueFall(THREE + "l01;", 0, -4);
        dueFall(THREE, 0, -4);
        Check.due("nobody", new MoreThanSheHas().fall(0), -4);
        Check.due("all", all().fall(0), -4);
    }

    private static void meet() {
        Check.sentence("MEET: the LINE there is not, which lets fewest FEEL it");
        dueFall(THREE + "p00;l01;l12;l23;", 1, 3);
        dueFall(THREE + "p00;l02;l21;l13;", 1, 3);
        dueFall(THREE + THREE + THREE + "l78;l76;", 1, 68);
        Check.sentence("MEET: likewise (of several the first)");
        dueFall(THREE + THREE + "l01;l12;l34;l45;", 1, 2);
        Check.sentence("MEET: likewise (fewer than now; -4)");
        Check.due("three feel it", Integer.bitCount(Check.parish(THREE + "p00;l01;l02;l03;").feels()), 3);
        dueFall(THREE + "p00;l01;l02;l03;", 1, -4);
        dueFall(THREE + "l01;l12;l20;", 1, -4);
        dueFall(THREE, 1, -4);
        Check.due("nobody", new MoreThanSheHas().fall(1), -4);
        Check.due("all: no LINE there is not", all().fall(1), -4);
    }

    private static void fallRefused() {
        Check.sentence("FALL OUT (what 0), MEET (1); -4. -1");
        for (int what : NO_PARTS) {
            Village.refused("fall(" + what + ")", x -> x.fall(what), -1);
            Check.due("fall(" + what + ") of nobody", new MoreThanSheHas().fall(what), -1);
        }
        Village.refused("fall(0), that is an answer", x -> x.fall(0), 1);
        Check.due("fall(1) of three who all KNOW each other", Check.parish(THREE + "l01;l12;l20;").fall(1), -4);
    }

    private static void far() {
        Check.sentence("FAR: the fewest LINES from one to another; -4 there is no way (0 itself)");
        MoreThanSheHas x = Check.parish(NINE + "l08;l81;l17;l72;l26;l63;l35;l54;");
        int[] row = {0, 8, 1, 7, 2, 6, 3, 5, 4};
        for (int i = 0; i < 9; i++) {
            for (int j = 0; j < 9; j++) {
                Check.due("far(" + row[i] + ", " + row[j] + ")", x.far(row[i], row[j]), Math.abs(i - j));
            }
        }
        x.line(2, 6);
        for (int i = 0; i < 9; i++) {
            boolean way = i <= 4;
            Check.due("far(0, " + row[i] + ")", x.far(0, row[i]), way ? i : -4);
            Check.due("far(" + row[i] + ", 4)", x.far(row[i], 4), way ? -4 : 8 - i);
        }
        Check.due("itself, KNOWING nobody", Check.parish(NINE).far(8, 8), 0);
        Check.due("the fewest", Check.parish(NINE + "l01;l12;l23;l34;l40;").far(0, 3), 2);
    }

    private static void farRefused() {
        Check.sentence("FAR; -4. -1 either");
        for (int p : NO_ONES) {
            Village.refused("far(0, " + p + ")", x -> x.far(0, p), -1);
            Village.refused("far(" + p + ", 0)", x -> x.far(p, 0), -1);
            Village.refused("far(" + p + ", 3)", x -> x.far(p, 3), -1);
            Village.refused("far(" + p + ", " + p + ")", x -> x.far(p, p), -1);
        }
        Village.refused("far(0, 3)", x -> x.far(0, 3), -4);
    }

    private static void dueWide(MoreThanSheHas x, int what, int want) {
        Check.due("wide(" + what + ")", x.wide(what), want);
    }

    private static void wide() {
        Check.sentence("WIDE: the greatest FAR of all twos between whom there is a way");
        dueWide(new MoreThanSheHas(), 0, 0);
        dueWide(Check.parish("p00;"), 0, 0);
        dueWide(Check.parish(NINE), 0, 0);
        dueWide(Check.parish(NINE + "l78;"), 0, 1);
        dueWide(Check.parish(NINE + "l01;l56;l67;"), 0, 2);
        dueWide(Check.parish(NINE + "l01;l12;l23;l34;l45;l56;l67;l78;"), 0, 8);
        dueWide(Check.parish(NINE + "l01;l12;l23;l34;l45;l56;l67;l78;l80;"), 0, 4);
        dueWide(all(), 0, 1);
        Check.sentence("WIDE (what 0), PARTS (1), BRIDGES (2). -1");
        for (int what : new int[] {-1, 3, MIN, MAX}) {
            Village.refused("wide(" + what + ")", x -> x.wide(what), -1);
            dueWide(new MoreThanSheHas(), what, -1);
        }
    }

    private static void parts() {
        Check.sentence("PARTS: how many there are, none with a way to another");
        dueWide(new MoreThanSheHas(), 1, 0);
        dueWide(Check.parish("p00;"), 1, 1);
        dueWide(Check.parish(NINE), 1, 9);
        dueWide(Check.parish(NINE + "l08;"), 1, 8);
        dueWide(Check.parish(NINE + "l08;l81;l17;l72;l26;l63;l35;l54;"), 1, 1);
        dueWide(Check.parish(NINE + "l08;l81;l17;l72;l63;l35;l54;"), 1, 2);
        dueWide(all(), 1, 1);
    }

    private static void bridges() {
        Check.sentence("BRIDGES: LINES (how many) without which there are more PARTS");
        dueWide(new MoreThanSheHas(), 2, 0);
        dueWide(Check.parish(NINE), 2, 0);
        dueWide(Check.parish(NINE + "l78;"), 2, 1);
        dueWide(Check.parish(NINE + "l01;l12;l23;l34;l45;l56;l67;l78;"), 2, 8);
        dueWide(Check.parish(NINE + "l01;l12;l23;l34;l45;l56;l67;l78;l80;"), 2, 0);
        dueWide(Check.parish(NINE + "l01;l12;l20;l23;l34;l45;l53;"), 2, 1);
        dueWide(all(), 2, 0);
        MoreThanSheHas x = Check.parish(NINE + "l01;l12;l20;l23;");
        String before = Check.state(x);
        dueWide(x, 2, 1);
        Check.dueState("wide(2)", x, before);
    }
}
