import java.util.Arrays;

/** Promises 21 to 28: a test for each sentence that names a boundary case. */
public final class NumberEdgesTest {
    private static final String THREE = "p00;p00;p00;";
    private static final String NINE = THREE + THREE + THREE;
    private static final String HERMITS = "p30;p30;p30;p30;p30;p30;p30;p30;";
    private static final int[] LEAST = {Byte.MIN_VALUE, Short.MIN_VALUE, Integer.MIN_VALUE};
    private static final long NO = 1000000001L;
    private static final int MIN = Integer.MIN_VALUE;
    private static final int MAX = Integer.MAX_VALUE;
    private static final int[] NO_ONES = {-1, 4, 8, 9, 31, 32, MIN, MAX};
    private static final int[] NO_PARTS = {-1, 2, MIN, MAX};

    public static void main(String[] args) {
        couldNobody();
        couldNumbers();
        couldNine();
        rowRefusals();
        whatIsSkips();
        whatIsKinds();
        whatIsFigures();
        whatIsDeaf();
        whatIsRefused();
        whoBegan();
        whoBeganSkips();
        twoPairs();
        twoDays();
        twoRefused();
        storms();
        stormsRefused();
        forged();
        judged();
        judgedSkips();
        yearsDraws();
        yearsFromNow();
        yearsRefused();
        Check.end("NumberEdgesTest");
    }

    private static void dueCould(int want, int... numbers) {
        for (int sort = 0; sort <= 2; sort++) {
            MoreThanSheHas x = new MoreThanSheHas();
            Check.lay(x, 7, sort, numbers);
            Check.due("could of " + Arrays.toString(numbers) + ", SORT " + sort, x.could(7), want);
        }
    }

    private static int[] times(int n, int number) {
        int[] row = new int[n];
        Arrays.fill(row, number);
        return row;
    }

    private static void couldNobody() {
        Check.sentence("PARISH: 1 there could be PEOPLE with just these, 0 there could not");
        dueCould(1);
        dueCould(1, 0);
        dueCould(0, 1);
        dueCould(1, 1, 1);
        dueCould(0, 1, 0);
        dueCould(0, 2, 1);
        dueCould(1, 1, 2, 1);
        dueCould(1, 2, 2, 2);
        dueCould(0, 2, 2, 1);
        dueCould(0, 1, 1, 1);
        dueCould(0, 2, 2, 2, 1);
        dueCould(1, 2, 2, 1, 1);
        dueCould(1, 3, 3, 2, 2);
        dueCould(0, 3, 3, 3, 1);
        dueCould(0, 3, 3, 1, 1);
        dueCould(1, 0, 1, 0, 1, 0);
        dueCould(1, 2, 1, 1, 2, 2, 1, 1);
        Check.due("the PEOPLE there are do not matter", laid(Check.parish("p00;"), 0, 1, 1).could(0), 1);
    }

    private static void couldNumbers() {
        Check.sentence("a ROW of NUMBERS (0 .. 8 ..; another number: not)");
        dueCould(0, -1);
        dueCould(0, -1, 1);
        dueCould(0, -1, -1);
        dueCould(0, -2, 0, 0);
        dueCould(0, 9);
        dueCould(0, 9, 9);
        dueCould(0, 9, 1, 1, 1, 1, 1, 1, 1, 1);
        dueCould(0, 100, 100);
        dueCould(0, 127, -128);
        for (int sort = 0; sort <= 2; sort++) {
            Check.due("256 and 256", laid(new MoreThanSheHas(), sort, 256, 256).could(0), sort == 0 ? 1 : 0);
            Check.due("65537 and 1", laid(new MoreThanSheHas(), sort, 65537, 1).could(0), sort == 2 ? 0 : 1);
            Check.due("the least", laid(new MoreThanSheHas(), sort, LEAST[sort], LEAST[sort]).could(0), 0);
        }
        dueCould(0, MIN + 1, MAX);
    }

    private static void couldNine() {
        Check.sentence("9 of them at most; more than 9: not");
        for (int n = 1; n <= 9; n++) {
            dueCould(1, times(n, 0));
            dueCould(1, times(n, n - 1));
            dueCould(0, times(n, n));
        }
        dueCould(0, times(10, 0));
        dueCould(0, times(10, 1));
        dueCould(0, times(100, 0));
        dueCould(1, 8, 1, 1, 1, 1, 1, 1, 1, 1);
        dueCould(1, 1, 1, 1, 1, 1, 1, 1, 1, 8);
        dueCould(0, 8, 1, 1, 1, 1, 1, 1, 1, 0);
        dueCould(0, 8, 8, 1, 1, 1, 1, 1, 1, 2);
    }

    private static MoreThanSheHas laid(MoreThanSheHas x, int sort, int... row) {
        Check.lay(x, 0, sort, row);
        return x;
    }

    private static void rowRefusals() {
        Check.sentence("by the ROW in SHELF d: -1, -11, -12 (no ROW)");
        int[] shelves = {-1, 8, MIN, MAX, 0, 1, 5};
        int[] want = {-1, -1, -1, -1, -11, -12, -12};
        for (int i = 0; i < shelves.length; i++) {
            int d = shelves[i];
            Village.refused("could(" + d + ")", x -> x.could(d), want[i]);
            Village.refused("whatIs(" + d + ", 0, 0)", x -> x.whatIs(d, 0, 0), want[i]);
            Village.refused("whatIs(" + d + ", 0, 1)", x -> x.whatIs(d, 0, 1), want[i]);
            Village.refused("whoBegan(" + d + ")", x -> x.whoBegan(d), want[i]);
            Village.refused("forged(" + d + ")", x -> x.forged(d), want[i]);
            Village.refused("judge(" + d + ")", x -> x.judge(d), want[i]);
        }
        Check.sentence("a ROW of any SORT is one");
        MoreThanSheHas x = Village.made();
        for (int d : new int[] {2, 3, 4, 6, 7}) {
            Check.due("could(" + d + ")", x.could(d), d == 6 ? 1 : 0);
            Check.due("forged(" + d + ")", x.forged(d), d == 2 ? 2 : d == 6 ? -4 : 0);
            Check.due("judge(" + d + ")", x.judge(d), d == 6 ? -4 : 0);
            Check.due("whatIs(" + d + ", 0, 0)", x.whatIs(d, 0, 0), d == 6 ? 255 : 0);
            Check.due("whoBegan(" + d + ")", x.whoBegan(d), d == 6 ? 7 : 0);
        }
    }

    private static void dueWhat(String text, int p, int kinds, int figures, int sort, int... row) {
        MoreThanSheHas x = Check.parish(text);
        String before = Check.state(x);
        Check.lay(x, 0, sort, row);
        String call = " of " + p + " by " + Arrays.toString(row) + ", SORT " + sort + ", " + text;
        Check.due("KINDS" + call, x.whatIs(0, p, 0), kinds);
        Check.due("FIGURES" + call, x.whatIs(0, p, 1), figures);
        Check.dueState("whatIs", x, before);
    }

    private static void whatIsSkips() {
        Check.sentence("WHAT KIND: (the least number of the SORT is skipped)");
        String told = "p00;p30;l01;h0;";
        for (int sort = 0; sort <= 2; sort++) {
            int least = LEAST[sort];
            dueWhat(told, 0, 255, 1023, sort, least);
            dueWhat(told, 0, 255, 1023, sort, least, least, least);
            dueWhat(told, 0, 85, 1023, sort, least, 2);
            dueWhat(told, 0, 127, 1023, sort, 1, least);
            dueWhat(told, 0, 0, 0, sort, 1, least + 1);
            dueWhat(told, 0, 0, 0, sort, least + 1);
            dueWhat(told, 0, 0, 0, sort, 127, 2);
        }
        dueWhat(told, 0, 0, 0, 1, LEAST[0], 2);
        dueWhat(told, 0, 0, 0, 2, LEAST[0], 2);
        dueWhat(told, 0, 0, 0, 2, LEAST[1], 2);
        dueWhat(told, 0, 85, 1023, 0, LEAST[1] + LEAST[0], 2);
        dueWhat(told, 0, 85, 1023, 1, 65536 + LEAST[1], 2);
    }

    private static void whatIsKinds() {
        Check.sentence("WHAT KIND: a ROW tells how many have HEARD behind 0, 1, .. DAYS: KINDS (bits) by which all of it is so");
        dueWhat("p00;", 0, 255, 1023, 0);
        dueWhat("p00;", 0, 255, 1023, 0, times(100, 0));
        dueWhat("p00;h0;", 0, 127, 1023, 0, times(100, 1));
        dueWhat("p00;h0;", 0, 128, 0, 0, times(100, 0));
        int[] last = times(100, 1);
        last[99] = 2;
        dueWhat("p00;h0;", 0, 0, 0, 0, last);
        dueWhat("p00;h0;", 0, 0, 0, 0, 2);
        String star = "p00;" + HERMITS + "l01;l02;l03;l04;l05;l06;l07;l08;h0;";
        dueWhat(star, 0, 1, 1023, 2, 1, 2);
        dueWhat(star, 0, 1 << 2, 0, 2, 1, 4);
        dueWhat(star, 0, 1 << 4 | 1 << 6, 0, 2, 1, 3);
        dueWhat(star, 0, 1 << 1, 0, 2, 1, 1, 2);
        dueWhat(star, 0, 1 << 3 | 1 << 5, 0, 2, 1, 1, 1);
        dueWhat(star, 0, 1 << 7, 0, 2, 0);
        dueWhat(star + "d01;", 0, 1 << 0 | 1 << 1, 1023, 2, 2, 3);
        dueWhat(star + "d01;", 0, 1 << 0 | 1 << 1, 1023, 2, 2, 3, MIN);
        Check.sentence("KINDS (bits) of one: the last one");
        dueWhat("p00;p00;p00;" + "p00;p00;p00;p00;p00;p00;l78;h8;", 8, 85, 1023, 0, 1, 2);
    }

    private static void whatIsFigures() {
        Check.sentence("WHAT KIND: FIGURES (bits 0 .. 9)");
        String star = "p60;" + HERMITS + "l01;l02;l03;l04;l05;l06;l07;l08;h0;";
        for (int figure = 0; figure <= 5; figure++) {
            dueWhat(star, 0, figure == 0 ? 1 << 4 | 1 << 6 : figure == 1 ? 1 << 2 : 0, 1 << figure, 0, 1, 3 + figure);
        }
        dueWhat(star, 0, 0, 1 << 6 | 1 << 7 | 1 << 8 | 1 << 9, 0, 1, 9);
        dueWhat(star + "k069;", 0, 1 << 6, 960, 0, 1, 9);
        dueWhat(star, 0, 0, 0, 0, 1, 10);
        dueWhat(star, 0, 1 << 7, 0, 0, 0);
    }

    private static void whatIsDeaf() {
        Check.sentence("WHAT KIND: who becomes DEAF has not HEARD then");
        dueWhat("p00;p00;h0;h1;", 0, 128, 0, 0, 1);
        dueWhat("p00;p00;h0;h1;", 0, 127, 1023, 0, 2);
        dueWhat("p70;p00;h1;", 0, 255, 1023, 0, 1);
        dueWhat("p70;p00;l01;h1;", 0, 127, 0, 0, 1, 2);
        dueWhat("p70;p00;l01;h1;", 0, 128, 1023, 0, 1, 1);
    }

    private static void whatIsRefused() {
        Check.sentence("WHAT KIND: KINDS (what 0), FIGURES (1), bits. -1, -11, -12");
        for (int p : NO_ONES) {
            Village.refused("whatIs(2, " + p + ", 0)", x -> x.whatIs(2, p, 0), -1);
            Village.refused("whatIs(0, " + p + ", 0), nothing", x -> x.whatIs(0, p, 0), -1);
            Village.refused("whatIs(1, " + p + ", 1), a KIND", x -> x.whatIs(1, p, 1), -1);
        }
        for (int what : NO_PARTS) {
            Village.refused("whatIs(2, 0, " + what + ")", x -> x.whatIs(2, 0, what), -1);
            Village.refused("whatIs(0, 0, " + what + "), nothing", x -> x.whatIs(0, 0, what), -1);
            Village.refused("whatIs(1, 0, " + what + "), a KIND", x -> x.whatIs(1, 0, what), -1);
        }
        Check.due("of nobody", laid(new MoreThanSheHas(), 0).whatIs(0, 0, 0), -1);
        Village.refused("whatIs(2, 3, 0), of the last", x -> x.whatIs(2, 3, 0), 0);
    }

    private static void dueBegan(String text, int want, int sort, int... row) {
        MoreThanSheHas x = Check.parish(text);
        String before = Check.state(x);
        Check.lay(x, 0, sort, row);
        Check.due("whoBegan by " + Arrays.toString(row) + ", SORT " + sort + ", " + text, x.whoBegan(0), want);
        Check.dueState("whoBegan", x, before);
    }

    private static void whoBegan() {
        Check.sentence("WHO BEGAN: behind 1, 2, .. DAYS, nobody but one told now");
        dueBegan(THREE + "l01;l12;", 7, 0, 2);
        dueBegan(THREE + "l01;l12;", 7, 0, 2, 3);
        // 1 tells 0 first and 2 a DAY later; 2 tells 1, and both of them tell another
        dueBegan(THREE + "p00;l01;l12;l23;", 11, 0, 2, 3, 4, 4);
        dueBegan(THREE + "p00;l01;l12;l23;", 4, 0, 2, 4);
        dueBegan(THREE + "p00;l01;l12;l23;h0;h1;h2;h3;", 11, 0, 2, 3, 4);
        dueBegan(THREE + "p00;l01;l12;l23;", 0, 0, 1);
        dueBegan(THREE + "p00;l01;l12;l23;", 15, 0);
        dueBegan("p10;p10;l01;", 3, 0, 1, 2);
        dueBegan("d01;p10;p10;l01;", 3, 0, 2, 2);
        dueBegan(NINE, 511, 0, times(100, 1));
        int[] last = times(100, 1);
        last[99] = 2;
        dueBegan(NINE, 0, 0, last);
        dueBegan(NINE + "l78;", 384, 2, times(100, 2));
        Check.due("of nobody", laid(new MoreThanSheHas(), 0).whoBegan(0), 0);
        Check.sentence("WHO BEGAN: PEOPLE (bits) by whom all of it is so (not DEAF ones)");
        dueBegan("p70;p00;p70;p30;", 10, 0);
        dueBegan("p70;p00;p70;p30;", 10, 0, 1);
        dueBegan("p70;p00;p70;p30;", 0, 0, 0);
        dueBegan("p70;", 0, 0);
    }

    private static void whoBeganSkips() {
        Check.sentence("WHO BEGAN: a ROW tells it likewise (the least number of the SORT is skipped)");
        for (int sort = 0; sort <= 2; sort++) {
            dueBegan(THREE + "p00;l01;l12;l23;", 15, sort, LEAST[sort]);
            dueBegan(THREE + "p00;l01;l12;l23;", 4, sort, LEAST[sort], 4);
            dueBegan(THREE + "p00;l01;l12;l23;", 15, sort, 2, LEAST[sort]);
            dueBegan(THREE + "p00;l01;l12;l23;", 0, sort, LEAST[sort] + 1);
        }
        dueBegan(THREE, 0, 1, LEAST[0]);
        dueBegan(THREE, 0, 2, LEAST[0]);
        dueBegan(THREE, 0, 2, LEAST[1]);
    }

    private static void dueTwo(String text, int a, int b, int n, int want) {
        MoreThanSheHas x = Check.parish(text);
        String before = Check.state(x);
        Check.due("two(" + a + ", " + b + ", " + n + ") of " + text, x.two(a, b, n), want);
        Check.dueState("two", x, before);
    }

    private static void twoPairs() {
        Check.sentence("TWO: the first pair (10 the one's and the other's) by which neither has more by another choice alone");
        String people = "p20;p20;p30;p30;p30;p30;p30;p30;h0;h1;";
        dueTwo(people, 0, 1, 1, 0);
        // two whom one tells are just as much as telling costs: 0 stays the first
        dueTwo(people + "l02;l03;", 0, 1, 1, 0);
        dueTwo(people + "l02;l03;", 1, 0, 1, 0);
        dueTwo(people + "l02;l03;l14;l15;", 0, 1, 1, 0);
        dueTwo(people + "l02;l03;l04;", 0, 1, 1, 10);
        dueTwo(people + "l02;l03;l04;", 1, 0, 1, 1);
        dueTwo(people + "l02;l03;l04;l15;l16;l17;", 0, 1, 1, 11);
        // the same three: it is enough that the other one tells
        dueTwo(people + "l02;l03;l04;l12;l13;l14;", 0, 1, 1, 1);
        dueTwo("p70;p00;p00;h1;h2;", 2, 1, 30, 0);
        // others who have HEARD tell as ever: 2 tells the fourth whom 1 KNOWS
        dueTwo("p20;p20;p20;p30;p30;p30;p30;h0;h1;h2;l13;l14;l15;l16;l26;", 1, 0, 1, 10);
        dueTwo("p20;p20;p20;p30;p30;p30;p30;h0;h1;h2;l13;l14;l15;l16;l26;", 0, 1, 1, 1);
        Check.sentence("TWO: -4");
        MoreThanSheHas x = Check.parish("p20;p10;p40;p20;p40;p00;p10;p62;p00;h4;h1;");
        Check.told(x, "l01;l03;l05;l06;l07;l12;l13;l17;l24;l26;l28;l37;l46;l48;l58;");
        Check.due("two(4, 1, 3)", x.two(4, 1, 3), -4);
        Check.due("two(1, 4, 3)", x.two(1, 4, 3), -4);
    }

    private static void twoDays() {
        Check.sentence("TWO: for the next n DAYS (1 .. 30)");
        String slow = "p00;p00;p30;p30;p30;p30;l02;l03;l04;h0;h1;";
        dueTwo(slow, 0, 1, 1, 0);
        dueTwo(slow, 0, 1, 2, 0);
        dueTwo(slow, 0, 1, 3, 10);
        dueTwo(slow, 0, 1, 30, 10);
        // a SHY one tells on even DAYS alone: three by DAY 6
        String shy = "p10;p00;p30;p30;p30;l02;l03;l04;h0;h1;";
        dueTwo(shy, 0, 1, 5, 0);
        dueTwo(shy, 0, 1, 6, 10);
        dueTwo("d01;" + shy, 0, 1, 5, 10);
        dueTwo("d01;" + shy, 0, 1, 4, 0);
        MoreThanSheHas last = Check.parishOn(999, "p20;p00;p30;p30;p30;l02;l03;l04;");
        last.told(0);
        last.told(1);
        Check.due("two(0, 1, 1) on DAY 999", last.two(0, 1, 1), 10);
        Check.due("two(0, 1, 30) on DAY 999", last.two(0, 1, 30), 10);
    }

    private static void twoRefused() {
        Check.sentence("TWO; -4. -1 (one twice), -3 either has not HEARD");
        for (int p : NO_ONES) {
            Village.refused("two(0, " + p + ", 1)", x -> x.two(0, p, 1), -1);
            Village.refused("two(" + p + ", 0, 1)", x -> x.two(p, 0, 1), -1);
            Village.refused("two(2, " + p + ", 1), has not HEARD", x -> x.two(2, p, 1), -1);
        }
        for (int n : new int[] {0, -1, 31, MIN, MAX}) {
            Village.refused("two(0, 1, " + n + ")", x -> x.two(0, 1, n), -1);
            Village.refused("two(2, 3, " + n + "), has not HEARD", x -> x.two(2, 3, n), -1);
        }
        for (int p = 0; p < 4; p++) {
            int q = p;
            Village.refused("two(" + q + ", " + q + ", 1)", x -> x.two(q, q, 1), -1);
        }
        Village.refused("two(0, 2, 1)", x -> x.two(0, 2, 1), -3);
        Village.refused("two(2, 0, 30)", x -> x.two(2, 0, 30), -3);
        Village.refused("two(3, 1, 1), DEAF", x -> x.two(3, 1, 1), -3);
        Village.refused("two(2, 3, 1)", x -> x.two(2, 3, 1), -3);
        Village.refused("two(0, 1, 1), that is an answer", x -> x.two(0, 1, 1), 0);
        Check.due("of nobody", new MoreThanSheHas().two(0, 1, 1), -1);
    }

    private static void dueStorms(String text, int p, int n, int t, long above, long below) {
        MoreThanSheHas x = Check.parish(text);
        String before = Check.state(x);
        String call = "storms(" + p + ", " + n + ", " + t + ") of " + text;
        Check.dueFraction(call, x.storms(p, n, t, 0), x.storms(p, n, t, 1), above, below);
        Check.dueState("storms", x, before);
    }

    private static void storms() {
        String row = "p00;p30;p70;p30;l01;l02;h0;";
        Check.sentence("STORMS: on each of n DAYS (0 .. 7) .. with odds 1 in t (2 .. 20): a fraction in least terms");
        for (int t = 2; t <= 20; t++) {
            long all = 1;
            for (int n = 0; n <= 7; n++) {
                dueStorms(row, 0, n, t, 1, 1);
                dueStorms(row, 1, n, t, n == 0 ? 0 : all - 1, n == 0 ? 1 : all);
                dueStorms(row, 2, n, t, 0, 1);
                dueStorms(row, 3, n, t, 0, 1);
                all *= t;
            }
        }
    }

    private static void stormsRefused() {
        Check.sentence("STORMS: one who hears on the last DAY alone; a DAY of storm is a DAY");
        String row = NINE + "l01;l12;l23;l34;l45;l56;l67;l78;h0;";
        dueStorms(row, 7, 7, 2, 1, 128);
        dueStorms(row, 7, 7, 20, 893871739L, 1280000000L);
        dueStorms(row, 8, 7, 20, 0, 1);
        dueStorms(row, 6, 7, 2, 1, 16);
        dueStorms("p10;p30;l01;h0;", 1, 2, 20, 19, 20);
        dueStorms("p10;p30;l01;h0;", 1, 3, 20, 19, 20);
        MoreThanSheHas last = Check.parishOn(999, "p10;p30;l01;");
        last.told(0);
        Check.dueFraction("on DAY 1000", last.storms(1, 1, 3, 0), last.storms(1, 1, 3, 1), 2, 3);
        Check.sentence("STORMS; part likewise. Refused as told: -1");
        for (int p : NO_ONES) {
            Village.refused("storms(" + p + ", 1, 2, 0)", x -> x.storms(p, 1, 2, 0), NO);
        }
        for (int n : new int[] {-1, 8, 31, 32, MIN, MAX}) {
            Village.refused("storms(0, " + n + ", 2, 0)", x -> x.storms(0, n, 2, 0), NO);
        }
        for (int t : new int[] {1, 0, -1, -2, 21, MIN, MAX}) {
            Village.refused("storms(0, 1, " + t + ", 0)", x -> x.storms(0, 1, t, 0), NO);
            Village.refused("storms(0, 0, " + t + ", 1)", x -> x.storms(0, 0, t, 1), NO);
        }
        for (int part : NO_PARTS) {
            Village.refused("storms(0, 1, 2, " + part + ")", x -> x.storms(0, 1, 2, part), NO);
        }
        Check.due("of nobody", new MoreThanSheHas().storms(0, 1, 2, 0), NO);
    }

    private static void dueForged(String text, int want, int sort, int... row) {
        MoreThanSheHas x = laid(Check.parish(text), sort, row);
        Check.due("forged by " + Arrays.toString(row) + ", SORT " + sort + ", " + text, x.forged(0), want);
    }

    private static void forged() {
        Check.sentence("FORGED: a ROW tells NUMBERS of PEOPLE 0, 1, ..: the first that is not so; -4");
        for (int sort = 0; sort <= 2; sort++) {
            dueForged(THREE, -4, sort);
            dueForged(THREE, -4, sort, 0, 0);
            dueForged(THREE + "l02;", -4, sort, 1, 0, 1);
            dueForged(THREE + "l02;", 0, sort, 0, 0, 1);
            dueForged(THREE + "l02;", 1, sort, 1, 1, 1);
            dueForged(THREE + "l02;", 2, sort, 1, 0, 0);
            dueForged(THREE + "l02;", 1, sort, 1, -1, 0);
        }
        dueForged(NINE + "l80;l81;l82;l83;l84;l85;l86;l87;", -4, 0, 1, 1, 1, 1, 1, 1, 1, 1, 8);
        Check.sentence("FORGED: (no such one, too)");
        dueForged(THREE, 3, 0, 0, 0, 0, 0);
        dueForged(NINE, 9, 0, times(10, 0));
        dueForged(NINE, 9, 2, times(100, 0));
        dueForged("p70;", 1, 1, 0, 0);
        Check.due("of nobody", laid(new MoreThanSheHas(), 0, 0).forged(0), 0);
        Check.due("of nobody, nothing told", laid(new MoreThanSheHas(), 0).forged(0), -4);
    }

    private static void dueJudge(String text, int want, int sort, int... row) {
        MoreThanSheHas x = Check.parish(text);
        String before = Check.state(x);
        Check.lay(x, 0, sort, row);
        Check.due("judge by " + Arrays.toString(row) + ", SORT " + sort + ", " + text, x.judge(0), want);
        Check.dueState("judge", x, before);
    }

    private static void judged() {
        Check.sentence("JUDGED: a ROW tells how many have HEARD behind 0, 1, .. DAYS: the first that is not so; -4");
        String row = THREE + "p00;l01;l12;l23;h0;";
        dueJudge(row, -4, 0);
        dueJudge(row, -4, 0, 1);
        dueJudge(row, 0, 0, 2);
        dueJudge(row, -4, 0, 1, 2, 3, 4, 4, 4);
        dueJudge(row, 1, 0, 1, 1, 3);
        dueJudge(row, 5, 0, 1, 2, 3, 4, 4, 5);
        dueJudge("p10;p10;l01;h0;", -4, 0, 1, 1, 2, 2);
        dueJudge("d01;p10;p10;l01;h0;", -4, 0, 1, 2, 2);
        dueJudge(NINE, -4, 0, times(100, 0));
        int[] last = times(100, 0);
        last[99] = 1;
        dueJudge(NINE, 99, 0, last);
        Check.due("of nobody", laid(new MoreThanSheHas(), 0, times(100, 0)).judge(0), -4);
        Check.due("of nobody", laid(new MoreThanSheHas(), 0, 1).judge(0), 0);
        MoreThanSheHas even = Check.parishOn(999, "p10;p30;l01;");
        even.told(0);
        Check.due("on DAY 1000", laid(even, 0, 1, 2, 2).judge(0), -4);
    }

    private static void judgedSkips() {
        Check.sentence("JUDGED: (skipped likewise)");
        String row = THREE + "p00;l01;l12;l23;h0;";
        for (int sort = 0; sort <= 2; sort++) {
            int least = LEAST[sort];
            dueJudge(row, -4, sort, least);
            dueJudge(row, -4, sort, least, 2, least, 4);
            dueJudge(row, 3, sort, least, 2, least, 3);
            dueJudge(row, 0, sort, least + 1);
            dueJudge(row, 2, sort, 1, least, 2);
        }
        dueJudge(row, 0, 1, LEAST[0]);
        dueJudge(row, 0, 2, LEAST[0]);
        dueJudge(row, 0, 2, LEAST[1]);
    }

    /** How many of so many DRAWS below 3 by that seed are 0, reckoned in longs. */
    private static int drawn(int seed, int draws) {
        long z = seed;
        int found = 0;
        for (int i = 0; i < draws; i++) {
            z = Math.floorMod(z * 1103515245L + 12345L, 1L << 32);
            long withoutSign = z % (1L << 31);
            if (withoutSign / 65536 % 3 == 0) {
                found++;
            }
        }
        return found;
    }

    private static void yearsDraws() {
        Check.sentence("A DRAW below n: z becomes z times 1103515245 plus 12345 (an int)");
        int[] seeds = {0, 1, -1, 2, 12345, 65535, 65536, -65536, MAX, MAX - 1, MIN, MIN + 1};
        for (int z : seeds) {
            MoreThanSheHas two = Check.parish("p00;p30;h0;");
            MoreThanSheHas nine = Check.parish(NINE);
            for (int n : new int[] {1, 2, 19, 20}) {
                Check.due("years(" + n + ", " + z + ", 1) of two", two.years(n, z, 1), drawn(z, n));
                Check.due("years(" + n + ", " + z + ", 0) of two", two.years(n, z, 0), n + drawn(z, n));
                Check.due("years(" + n + ", " + z + ", 1) of nine", nine.years(n, z, 1), drawn(z, 36 * n));
                Check.due("years(" + n + ", " + z + ", 0) of nine", nine.years(n, z, 0), 0);
            }
        }
        Check.sentence("YEARS: of nobody, of one");
        Check.due("years(20, 1, 0) of nobody", new MoreThanSheHas().years(20, 1, 0), 0);
        Check.due("years(20, 1, 1) of nobody", new MoreThanSheHas().years(20, 1, 1), 0);
        Check.due("years(20, 1, 0) of one", Check.parish("p00;h0;").years(20, 1, 0), 20);
        Check.due("years(20, 1, 1) of one", Check.parish("p00;h0;").years(20, 1, 1), 0);
    }

    private static void yearsFromNow() {
        Check.sentence("YEARS: n (1 .. 20), each from now: each two have a LINE just if a DRAW below 3 is 0");
        // by the seed 0 the first draw is 0, by 1 it is 2
        MoreThanSheHas joined = Check.parish("p00;p30;l01;h0;");
        String before = Check.state(joined);
        Check.due("a LINE that goes", joined.years(1, 1, 1), 0);
        Check.due("nobody told", joined.years(1, 1, 0), 1);
        Check.due("a LINE that stays", joined.years(1, 0, 1), 1);
        Check.due("one told", joined.years(1, 0, 0), 2);
        Check.due("not told in the years behind", joined.years(20, 0, 0), 20 + drawn(0, 20));
        Check.dueState("years", joined, before);
        Check.sentence("YEARS: then 9 DAYS");
        Check.due("9 DAYS from DAY 0", Check.parish("p10;p10;p10;p10;p10;p10;p10;p10;p10;h0;").years(20, 24, 0), 90);
        Check.due("9 DAYS from DAY 1", Check.parish("d01;p10;p10;p00;p10;p10;p10;p10;p10;p10;h0;").years(20, 36, 0), 110);
        MoreThanSheHas last = Check.parishOn(999, "p10;p30;");
        last.told(0);
        Check.due("from DAY 999", last.years(20, 5, 0), 20 + drawn(5, 20));
        Check.due("DAY", last.count(1), 999);
    }

    private static void yearsRefused() {
        Check.sentence("YEARS: who has HEARD (what 0), LINES (1). -1");
        for (int n : new int[] {0, -1, 21, MIN, MAX}) {
            Village.refused("years(" + n + ", 1, 0)", x -> x.years(n, 1, 0), -1);
            Village.refused("years(" + n + ", 1, 1)", x -> x.years(n, 1, 1), -1);
        }
        for (int what : NO_PARTS) {
            Village.refused("years(1, 1, " + what + ")", x -> x.years(1, 1, what), -1);
            Check.due("years of nobody", new MoreThanSheHas().years(20, 1, what), -1);
        }
        Check.due("years(0, 1, 0) of nobody", new MoreThanSheHas().years(0, 1, 0), -1);
    }
}
