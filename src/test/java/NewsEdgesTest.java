/** Promises 14 to 20: a test for each sentence that names a boundary case. */
public final class NewsEdgesTest {
    private static final String THREE = "p00;p00;p00;";
    private static final String NINE = THREE + THREE + THREE;
    private static final String ROW_OF_NINE = NINE + "l01;l12;l23;l34;l45;l56;l67;l78;";
    private static final long NO = 1000000001L;
    private static final int MIN = Integer.MIN_VALUE;
    private static final int MAX = Integer.MAX_VALUE;
    private static final int[] NO_ONES = {-1, 4, 8, 9, 31, 32, MIN, MAX};

    public static void main(String[] args) {
        stampsOfSeveral();
        stampsNotDeaf();
        stampsFewer();
        stampsRanges();
        then();
        thenRefused();
        hears();
        asked();
        askedRefused();
        settles();
        circle();
        strangers();
        pews();
        fire();
        inTurn();
        fireAlone();
        fireRefused();
        Check.end("NewsEdgesTest");
    }

    private static void dueStamps(String text, int k, int n, int who, int many) {
        MoreThanSheHas x = Check.parish(text);
        String before = Check.state(x);
        Check.due("stamps(" + k + ", " + n + ", 0) of " + text, x.stamps(k, n, 0), who);
        Check.due("stamps(" + k + ", " + n + ", 1) of " + text, x.stamps(k, n, 1), many);
        Check.dueState("stamps", x, before);
    }

    private static void stampsOfSeveral() {
        Check.sentence("STAMPS: the k PEOPLE (1 .. 4, bits, of several sets the least)");
        dueStamps(NINE, 1, 0, 1, 1);
        dueStamps(NINE, 2, 0, 3, 2);
        dueStamps(NINE, 3, 30, 7, 3);
        dueStamps(NINE, 4, 30, 15, 4);
        dueStamps(NINE + "l67;l78;", 1, 1, 64, 2);
        dueStamps(NINE + "l67;l78;", 1, 2, 64, 3);
        dueStamps(NINE + "l68;l87;", 1, 1, 64, 2);
        dueStamps(NINE + "l05;", 1, 1, 1, 2);
        dueStamps(NINE + "l05;l14;", 2, 1, 3, 4);
        dueStamps(NINE + "l05;l14;l23;", 2, 1, 3, 4);
        Check.sentence("STAMPS: behind n DAYS (0 .. 30)");
        dueStamps(ROW_OF_NINE, 1, 0, 1, 1);
        // a PERSON tells the lesser one first, so news goes up a DAY later than down
        dueStamps(ROW_OF_NINE, 1, 4, 16, 8);
        dueStamps(ROW_OF_NINE, 1, 5, 16, 9);
        dueStamps(ROW_OF_NINE, 1, 7, 4, 9);
        dueStamps(ROW_OF_NINE, 1, 8, 1, 9);
        dueStamps(ROW_OF_NINE, 1, 30, 1, 9);
        Check.due("stamps(1, 8, 1) on DAY 999", Check.parishOn(999, ROW_OF_NINE).stamps(1, 8, 1), 9);
        dueStamps(THREE + "k010;l01;", 1, 1, 2, 2);
        dueStamps(THREE + "k010;k110;l01;", 1, 1, 1, 1);
        dueStamps(THREE + "k010;k110;l01;d01;", 1, 1, 1, 2);
    }

    private static void stampsNotDeaf() {
        Check.sentence("STAMPS: not DEAF ones, HEARD or not");
        dueStamps("p70;p00;p70;p00;l01;l03;", 1, 30, 2, 1);
        dueStamps("p70;p00;p70;p00;", 2, 0, 10, 2);
        dueStamps("p00;p00;p00;h1;", 1, 0, 1, 2);
        dueStamps("p00;p00;p00;h0;", 1, 0, 2, 2);
        dueStamps("p00;p00;p00;h0;h1;h2;", 1, 0, 1, 3);
        dueStamps("p00;p00;p00;h0;h1;", 2, 0, 5, 3);
        dueStamps("p00;p00;h0;h1;", 2, 0, 3, 2);
        dueStamps("p00;p00;p00;l01;l12;h0;", 1, 1, 2, 3);
        // 0 would tell 1 by itself, so 1 and 0 are as good as none
        dueStamps("p00;p00;p00;p00;l01;h0;", 1, 1, 4, 3);
    }

    private static void stampsFewer() {
        Check.sentence("STAMPS: how many; 0 fewer than k there are (who, and how many have HEARD: 0 too)");
        for (int k = 1; k <= 4; k++) {
            dueStamps("p70;p70;p70;" + "p00;".repeat(k), k, 0, (1 << k) - 1 << 3, k);
            dueStamps("p70;p70;p70;p70;" + "p00;".repeat(k - 1), k, 0, 0, 0);
            dueStamps("p70;" + "p00;".repeat(k) + "h1;k170;", k, 0, 0, 0);
            Check.due("stamps(" + k + ", 30, 0) of nobody", new MoreThanSheHas().stamps(k, 30, 0), 0);
            Check.due("stamps(" + k + ", 30, 1) of nobody", new MoreThanSheHas().stamps(k, 30, 1), 0);
        }
        dueStamps("p70;p00;p00;h1;h2;", 3, 9, 0, 0);
        dueStamps("p70;p00;p00;h1;h2;", 2, 9, 6, 2);
    }

    private static void stampsRanges() {
        Check.sentence("STAMPS: who (what 0, bits), how many have HEARD (1; 0 too). -1 (k, n, what)");
        for (int no : new int[] {-1, MIN, MAX}) {
            Village.refused("stamps(" + no + ", 1, 0)", x -> x.stamps(no, 1, 0), -1);
            Village.refused("stamps(1, " + no + ", 0)", x -> x.stamps(1, no, 0), -1);
            Village.refused("stamps(1, 1, " + no + ")", x -> x.stamps(1, 1, no), -1);
        }
        Village.refused("stamps(0, 1, 0)", x -> x.stamps(0, 1, 0), -1);
        Village.refused("stamps(5, 1, 1)", x -> x.stamps(5, 1, 1), -1);
        Village.refused("stamps(1, 31, 0)", x -> x.stamps(1, 31, 0), -1);
        Village.refused("stamps(1, 1, 2)", x -> x.stamps(1, 1, 2), -1);
        Village.refused("stamps(4, 1, 2), fewer there are", x -> x.stamps(4, 1, 2), -1);
        Village.refused("stamps(4, 31, 0), fewer there are", x -> x.stamps(4, 31, 0), -1);
        Village.refused("stamps(4, 30, 0), fewer there are", x -> x.stamps(4, 30, 0), 0);
        Check.due("stamps(0, 0, 0) of nobody", new MoreThanSheHas().stamps(0, 0, 0), -1);
    }

    private static void then() {
        Check.sentence("In mind, n DAYS on (0 .. 60): who has HEARD (bits)");
        MoreThanSheHas x = Check.parish(ROW_OF_NINE + "h0;");
        String before = Check.state(x);
        for (int n = 0; n <= 60; n++) {
            Check.due("then(" + n + ")", x.then(n), (1 << Math.min(9, n + 1)) - 1);
        }
        Check.dueState("then", x, before);
        Check.due("then(0) of nobody", new MoreThanSheHas().then(0), 0);
        Check.due("then(60) of nobody", new MoreThanSheHas().then(60), 0);
        MoreThanSheHas shy = Check.parish("p10;p10;p10;p10;p10;p10;p10;p10;p10;l01;l12;l23;l34;l45;l56;l67;l78;l80;h0;");
        for (int n = 0; n <= 20; n++) {
            int tellings = Math.min(n / 2, 8);
            Check.due("then(" + n + ") of SHY ones", Integer.bitCount(shy.then(n)), 1 + Math.min(8, 2 * tellings - (tellings > 0 ? 1 : 0)));
        }
        Check.sentence("In mind DAYS go on above 999");
        MoreThanSheHas even = Check.parishOn(999, "p10;p30;l01;");
        even.told(0);
        Check.due("then(0) on DAY 999", even.then(0), 1);
        Check.due("then(1) on DAY 1000", even.then(1), 3);
        Check.due("DAY", even.count(1), 999);
        MoreThanSheHas odd = Check.parishOn(998, "p10;p30;l01;");
        odd.told(0);
        Check.due("then(1) on DAY 999", odd.then(1), 1);
        Check.due("then(2) on DAY 1000", odd.then(2), 3);
    }

    private static void thenRefused() {
        Check.sentence("Who has HEARD n DAYS on (bits). -1");
        for (int n : new int[] {-1, 61, 999, MIN, MAX}) {
            Village.refused("then(" + n + ")", x -> x.then(n), -1);
        }
        Check.due("then(61) of nobody", new MoreThanSheHas().then(61), -1);
    }

    private static void hears() {
        Check.sentence("HEARS: behind how many DAYS (0 .. 60) one has HEARD first; -4");
        MoreThanSheHas x = Check.parish(ROW_OF_NINE + "h0;");
        String before = Check.state(x);
        for (int p = 0; p < 9; p++) {
            Check.due("hears(" + p + ")", x.hears(p), p);
        }
        Check.dueState("hears", x, before);
        Check.due("told already", Check.parish("p00;p30;h1;").hears(1), 0);
        Check.due("told by nobody", Check.parish("p00;p30;h1;").hears(0), -4);
        Check.due("nobody has HEARD", Check.parish("p00;p00;l01;").hears(0), -4);
        Check.due("a DEAF one", Check.parish("p00;p70;l01;h0;").hears(1), -4);
        MoreThanSheHas last = Check.parishOn(999, "p00;p10;p30;l01;l12;");
        last.told(0);
        Check.due("on DAY 1002", last.hears(2), 3);
        // a SHY one tells one each second DAY: the longest there is
        MoreThanSheHas slow = Check.parish("p10;p30;p30;p30;p30;p30;p30;p30;p30;l01;l02;l03;l04;l05;l06;l07;l08;h0;");
        Check.due("the last of eight", slow.hears(8), 16);
        Check.sentence("HEARS; -4. -1");
        for (int p : NO_ONES) {
            Village.refused("hears(" + p + ")", y -> y.hears(p), -1);
        }
        Village.refused("hears(3)", y -> y.hears(3), -4);
        Check.due("hears(0) of nobody", new MoreThanSheHas().hears(0), -1);
    }

    private static void dueAsked(MoreThanSheHas x, int from, int to, int n, long above, long below) {
        String call = "asked(" + from + ", " + to + ", " + n + ")";
        Check.dueFraction(call, x.asked(from, to, n, 0), x.asked(from, to, n, 1), above, below);
    }

    private static void asked() {
        Check.sentence("ASKED ON: one asks n times (0 .. 6)");
        MoreThanSheHas x = Check.parish(THREE + "l01;l12;l20;");
        long[] back = {1, 0, 1, 1, 3, 5, 11};
        long[] below = {1, 1, 2, 4, 8, 16, 32};
        for (int n = 0; n <= 6; n++) {
            dueAsked(x, 2, 2, n, back[n], below[n]);
        }
        dueAsked(x, 2, 0, 0, 0, 1);
        dueAsked(x, 2, 0, 6, 21, 64);
        MoreThanSheHas all = KnowEdgesTest.all();
        dueAsked(all, 8, 8, 6, 3641, 32768);
        dueAsked(all, 8, 0, 6, 29127, 262144);
        MoreThanSheHas row = Check.parish(ROW_OF_NINE);
        dueAsked(row, 0, 6, 6, 1, 32);
        dueAsked(row, 6, 0, 6, 1, 64);
        dueAsked(row, 0, 7, 6, 0, 1);
        Check.sentence("ASKED ON: (who KNOWS nobody stays)");
        for (int n = 0; n <= 6; n++) {
            dueAsked(Check.parish(NINE + "l01;"), 8, 8, n, 1, 1);
            dueAsked(Check.parish(NINE + "l01;"), 8, 0, n, 0, 1);
            dueAsked(Check.parish(NINE + "l01;"), 0, 1, n, n % 2, 1);
            dueAsked(Check.parish(NINE + "l01;"), 0, 0, n, 1 - n % 2, 1);
        }
    }

    private static void askedRefused() {
        Check.sentence("ASKED ON from one to a told one; part likewise. Refused as told: -1");
        for (int p : NO_ONES) {
            Village.refused("asked(" + p + ", 0, 1, 0)", x -> x.asked(p, 0, 1, 0), NO);
            Village.refused("asked(0, " + p + ", 1, 0)", x -> x.asked(0, p, 1, 0), NO);
        }
        for (int n : new int[] {-1, 7, MIN, MAX}) {
            Village.refused("asked(0, 1, " + n + ", 1)", x -> x.asked(0, 1, n, 1), NO);
        }
        for (int part : new int[] {-1, 2, MIN, MAX}) {
            Village.refused("asked(0, 1, 6, " + part + ")", x -> x.asked(0, 1, 6, part), NO);
        }
        Check.due("of nobody", new MoreThanSheHas().asked(0, 0, 0, 0), NO);
    }

    private static void dueSettles(String text, int p, long above, long below) {
        MoreThanSheHas x = Check.parish(text);
        Check.dueFraction("settles(" + p + ") of " + text, x.settles(p, 0), x.settles(p, 1), above, below);
    }

    private static void settles() {
        Check.sentence("SETTLES: NUMBER of one by all NUMBERS: a fraction in least terms (0 by 1 without LINES)");
        dueSettles("p00;", 0, 0, 1);
        dueSettles(NINE, 8, 0, 1);
        dueSettles(NINE + "l01;l01;", 0, 0, 1);
        dueSettles(NINE + "l01;", 8, 0, 1);
        dueSettles(NINE + "l01;", 0, 1, 2);
        dueSettles(NINE + "l01;l12;", 1, 1, 2);
        dueSettles(NINE + "l01;l12;l20;", 1, 1, 3);
        Check.dueFraction("settles(8) of all", KnowEdgesTest.all().settles(8, 0), KnowEdgesTest.all().settles(8, 1), 1, 9);
        Check.sentence("SETTLES; part likewise. Refused as told: -1");
        for (int p : NO_ONES) {
            Village.refused("settles(" + p + ", 0)", x -> x.settles(p, 0), NO);
            Village.refused("settles(" + p + ", 2)", x -> x.settles(p, 2), NO);
        }
        for (int part : new int[] {-1, 2, MIN, MAX}) {
            Village.refused("settles(0, " + part + ")", x -> x.settles(0, part), NO);
            Check.due("settles without LINES", Check.parish("p00;").settles(0, part), NO);
        }
        Check.due("settles(0, 0) of nobody", new MoreThanSheHas().settles(0, 0), NO);
    }

    private static void dueCircle(MoreThanSheHas x, int what, int want) {
        Check.due("circle(" + what + ")", x.circle(what), want);
    }

    private static void circle() {
        Check.sentence("CIRCLE: the most PEOPLE (bits, of several the least) of whom all KNOW each other");
        dueCircle(new MoreThanSheHas(), 0, 0);
        dueCircle(Check.parish("p00;"), 0, 1);
        dueCircle(Check.parish(NINE), 0, 1);
        dueCircle(Check.parish(NINE + "l78;"), 0, 384);
        dueCircle(Check.parish(NINE + "l78;l67;"), 0, 192);
        dueCircle(Check.parish(NINE + "l08;l17;l26;"), 0, 68);
        dueCircle(Check.parish(NINE + "l01;l12;l23;l30;"), 0, 3);
        dueCircle(Check.parish(NINE + "l01;l12;l23;l30;l67;l68;l78;"), 0, 448);
        MoreThanSheHas all = KnowEdgesTest.all();
        dueCircle(all, 0, 511);
        all.line(7, 8);
        dueCircle(all, 0, 255);
        Check.sentence("CIRCLE (what 0, bits), STRANGERS (1, bits), PEWS (2). -1");
        for (int what : new int[] {-1, 3, MIN, MAX}) {
            Village.refused("circle(" + what + ")", x -> x.circle(what), -1);
            dueCircle(new MoreThanSheHas(), what, -1);
        }
    }

    private static void strangers() {
        Check.sentence("STRANGERS: of whom no two do");
        dueCircle(new MoreThanSheHas(), 1, 0);
        dueCircle(Check.parish("p00;"), 1, 1);
        dueCircle(Check.parish(NINE), 1, 511);
        dueCircle(Check.parish(NINE + "l78;"), 1, 255);
        dueCircle(Check.parish(NINE + "l01;"), 1, 509);
        dueCircle(Check.parish(THREE + "l01;"), 1, 5);
        MoreThanSheHas all = KnowEdgesTest.all();
        dueCircle(all, 1, 1);
        all.line(7, 8);
        dueCircle(all, 1, 384);
    }

    private static void pews() {
        Check.sentence("PEWS: the fewest in which all can sit, no two who KNOW each other in one");
        dueCircle(new MoreThanSheHas(), 2, 0);
        dueCircle(Check.parish("p00;"), 2, 1);
        dueCircle(Check.parish(NINE), 2, 1);
        dueCircle(Check.parish(NINE + "l78;"), 2, 2);
        dueCircle(Check.parish(ROW_OF_NINE), 2, 2);
        dueCircle(Check.parish(ROW_OF_NINE + "l80;"), 2, 3);
        // a ring of five round a middle one: no four KNOW each other, but four pews
        dueCircle(Check.parish(THREE + THREE + "l01;l12;l23;l34;l40;l50;l51;l52;l53;l54;"), 2, 4);
        MoreThanSheHas all = KnowEdgesTest.all();
        dueCircle(all, 2, 9);
        all.line(7, 8);
        dueCircle(all, 2, 8);
    }

    private static void dueFire(String text, int twos, int... mates) {
        MoreThanSheHas x = Check.parish(text);
        Check.due("fire(-1) of " + text, x.fire(-1), twos);
        for (int p = 0; p < mates.length; p++) {
            Check.due("fire(" + p + ") of " + text, x.fire(p), mates[p]);
        }
    }

    private static void fire() {
        Check.sentence("FIRE: the most twos who KNOW each other, each one in one at most: how many");
        Check.due("nobody", new MoreThanSheHas().fire(-1), 0);
        dueFire("p00;", 0);
        dueFire(NINE, 0);
        dueFire(NINE + "l78;", 1);
        dueFire(ROW_OF_NINE, 4);
        dueFire(NINE + "l80;l81;l82;l83;l84;l85;l86;l87;", 1);
        Check.due("all", KnowEdgesTest.all().fire(-1), 4);
        // the first LINE alone would leave one two fewer
        dueFire(THREE + "p00;l01;l02;l13;", 2);
    }

    private static void inTurn() {
        Check.sentence("PEWS and FIRE, asked in turn, answer as ever");
        MoreThanSheHas x = Check.parish(THREE + "p00;p00;p00;l01;l12;l20;");
        for (int i = 0; i < 3; i++) {
            Check.due("fire(-1)", x.fire(-1), 1);
            Check.due("circle(2)", x.circle(2), 3);
            Check.due("fire(0)", x.fire(0), 1);
            Check.due("fire(3)", x.fire(3), -4);
            Check.due("circle(2)", x.circle(2), 3);
        }
        x.line(3, 4);
        Check.due("fire(-1)", x.fire(-1), 2);
        x.line(0, 1);
        x.line(0, 2);
        Check.due("circle(2)", x.circle(2), 2);
        Check.due("fire(0)", x.fire(0), -4);
        Check.due("fire(2)", x.fire(2), 1);
    }

    private static void fireAlone() {
        Check.sentence("FIRE: with whom one sits by the first such (by PEOPLE the least one, alone last); -4");
        dueFire("p00;", 0, -4);
        dueFire(NINE + "l78;", 1, -4, -4, -4, -4, -4, -4, -4, 8, 7);
        dueFire(ROW_OF_NINE, 4, 1, 0, 3, 2, 5, 4, 7, 6, -4);
        dueFire(THREE + "p00;l01;l02;l03;l12;l13;l23;", 2, 1, 0, 3, 2);
        dueFire(THREE + "l01;l12;", 1, 1, 0, -4);
        dueFire(THREE + "l02;l12;", 1, 2, -4, 0);
        dueFire(THREE + "p00;l01;l02;l13;", 2, 2, 3, 0, 1);
        dueFire(THREE + "p00;p00;l03;l13;l23;l24;", 2, 3, -4, 4, 0, 2);
        dueFire(THREE + THREE + "l03;l05;l12;l14;l23;", 3, 5, 4, 3, 2, 1, 0);
        dueFire(THREE + THREE + "p00;l14;l16;l23;l25;l34;", 3, -4, 6, 5, 4, 3, 2, 1);
        MoreThanSheHas all = KnowEdgesTest.all();
        for (int p = 0; p < 9; p++) {
            Check.due("fire(" + p + ") of all", all.fire(p), p == 8 ? -4 : p ^ 1);
        }
    }

    private static void fireRefused() {
        Check.sentence("FIRE: how many (p -1), with whom one sits (-4). -1 (p below -1, too)");
        for (int p : new int[] {-2, -3, 4, 8, 9, 32, MIN, MAX}) {
            Village.refused("fire(" + p + ")", x -> x.fire(p), -1);
        }
        Village.refused("fire(-1), that is an answer", x -> x.fire(-1), 1);
        Village.refused("fire(3)", x -> x.fire(3), -4);
        Check.due("fire(0) of nobody", new MoreThanSheHas().fire(0), -1);
        Check.due("fire(-2) of nobody", new MoreThanSheHas().fire(-2), -1);
    }
}
