/** Promises 21 to 28: told numbers, told books, years by seeds. */
public final class NumbersTest {
    private static final int LEAST_INT = Integer.MIN_VALUE;

    public static void main(String[] args) {
        could();
        whatIs();
        whatIsOfDeaf();
        whatIsRefused();
        whoBegan();
        two();
        twoWithoutPair();
        storms();
        forged();
        judge();
        years();
        rowRefusals();
        Check.end("NumbersTest");
    }

    private static void dueCould(int want, int... numbers) {
        for (int sort = 0; sort <= 2; sort++) {
            MoreThanSheHas x = new MoreThanSheHas();
            Check.lay(x, 2, sort, numbers);
            Check.due("could of " + numbers.length + " numbers, SORT " + sort, x.could(2), want);
        }
    }

    private static void could() {
        dueCould(1);
        dueCould(1, 0);
        dueCould(0, 1);
        dueCould(1, 1, 1);
        dueCould(0, 2, 2);
        dueCould(0, 1, 1, 1);
        dueCould(1, 1, 2, 1);
        dueCould(1, 3, 1, 1, 1);
        dueCould(0, 3, 3, 1, 1);
        dueCould(1, 2, 2, 2, 2, 2);
        dueCould(1, 8, 8, 8, 8, 8, 8, 8, 8, 8);
        dueCould(0, 8, 8, 8, 8, 8, 8, 8, 8, 0);
        dueCould(0, 8, 8, 8, 8, 8, 8, 8, 8);
        dueCould(1, 8, 1, 1, 1, 1, 1, 1, 1, 1);
        dueCould(1, 1, 1, 1, 1, 8, 1, 1, 1, 1);
        dueCould(0, 9, 1, 1, 1, 1, 1, 1, 1, 1);
        dueCould(0, 9, 9);
        dueCould(0, -1, 1);
        dueCould(0, -2);
        dueCould(0, -1, -1);
        dueCould(0, 0, 0, 0, -2);
        dueCould(0, 0, 0, 0, 0, 0, 0, 0, 0, 0, 0);
        dueCould(1, 0, 0, 0, 0, 0, 0, 0, 0, 0);
        dueCould(1, 4, 4, 3, 3, 2, 2, 2, 1, 1);
        dueCould(0, 7, 7, 4, 3, 3, 2, 1, 1, 0);
    }

    private static void dueKinds(MoreThanSheHas x, int p, int kinds, int figures) {
        Check.due("whatIs KINDS of " + p, x.whatIs(0, p, 0), kinds);
        Check.due("whatIs FIGURES of " + p, x.whatIs(0, p, 1), figures);
    }

    private static void whatIs() {
        // 0 has HEARD and KNOWS seven HERMITS
        MoreThanSheHas x = Check.parish("p00;p30;p30;p30;p30;p30;p30;p30;l01;l02;l03;l04;l05;l06;l07;h0;");
        Check.lay(x, 0, 0, 1, 2, 3);
        dueKinds(x, 0, 1, 1023);
        Check.lay(x, 0, 0, 1, -128, 3);
        dueKinds(x, 0, 1, 1023);
        Check.lay(x, 0, 0, 1, 4, 7);
        dueKinds(x, 0, 1 << 2, 0);
        Check.lay(x, 0, 0, 1, 3);
        dueKinds(x, 0, 1 << 4 | 1 << 6, 0);
        Check.lay(x, 0, 0, 1, 1, 2);
        dueKinds(x, 0, 1 << 1, 0);
        Check.lay(x, 0, 0, 1, 1, 1);
        dueKinds(x, 0, 1 << 3 | 1 << 5, 0);
        Check.lay(x, 0, 0, 0, 0, 0);
        dueKinds(x, 0, 1 << 7, 0);
        Check.lay(x, 0, 0);
        dueKinds(x, 0, 255, 1023);
        dueKinds(x, 7, 255, 1023);
        Check.due("a BELL", Check.told(x, "k062;"), 1);
        Check.lay(x, 0, 0, 1, 5);
        dueKinds(x, 0, 1 << 6, 1 << 2);
        Check.lay(x, 0, 1, 1, 5);
        dueKinds(x, 0, 1 << 6, 1 << 2);
        Check.lay(x, 0, 1, 1, -128);
        dueKinds(x, 0, 0, 0);
        Check.lay(x, 0, 1, 1, -32768, 8);
        dueKinds(x, 0, 1 << 6, 1020);
        Check.lay(x, 0, 2, 1, LEAST_INT, -32768);
        dueKinds(x, 0, 0, 0);
        Check.lay(x, 0, 2, LEAST_INT, LEAST_INT, 8);
        dueKinds(x, 0, 1 << 6, 1020);
        Check.due("all is as it was", x.one(0, 0), 6);
        Check.due("all is as it was", x.one(0, 1), 2);
        Check.due("all is as it was", x.count(3), 1);
    }

    private static void whatIsOfDeaf() {
        // a DEAF one between: by any other KIND it has not HEARD yet
        MoreThanSheHas x = Check.parish("p00;p70;p30;l01;l12;h0;");
        Check.lay(x, 0, 0, 1, 2, 3);
        dueKinds(x, 1, 1 << 0 | 1 << 1 | 1 << 2 | 1 << 4 | 1 << 6, 0);
        Check.lay(x, 0, 0, 1, 1);
        dueKinds(x, 1, 1 << 7, 1023);
        Check.lay(x, 0, 0, 1, 2, 2, 2);
        dueKinds(x, 1, 1 << 3 | 1 << 5, 0);
    }

    private static void whatIsRefused() {
        MoreThanSheHas x = Check.parish("p00;");
        Check.lay(x, 0, 0);
        Check.due("whatIs(0, 0, 0)", x.whatIs(0, 0, 0), 255);
        Check.due("whatIs(0, 1, 0)", x.whatIs(0, 1, 0), -1);
        Check.due("whatIs(0, -1, 0)", x.whatIs(0, -1, 0), -1);
        Check.due("whatIs(0, 0, 2)", x.whatIs(0, 0, 2), -1);
        Check.due("whatIs(0, 0, -1)", x.whatIs(0, 0, -1), -1);
        Check.due("whatIs(8, 0, 0)", x.whatIs(8, 0, 0), -1);
        Check.due("whatIs(-1, 0, 0)", x.whatIs(-1, 0, 0), -1);
        Check.due("whatIs(1, 0, 0), nothing", x.whatIs(1, 0, 0), -11);
        Check.due("whatIs(1, 1, 0), nothing, no such one", x.whatIs(1, 1, 0), -1);
        Check.due("whatIs(1, 0, 2), nothing, no such what", x.whatIs(1, 0, 2), -1);
        x.keep(1, 1, 0, 0);
        Check.due("whatIs(1, 0, 1), a KIND", x.whatIs(1, 0, 1), -12);
        Check.due("whatIs(1, 1, 1), a KIND, no such one", x.whatIs(1, 1, 1), -1);
    }

    private static void whoBegan() {
        MoreThanSheHas x = Check.parish("p00;p20;p00;p70;p30;l01;l12;l13;h4;");
        Check.lay(x, 0, 0, 3);
        Check.due("whoBegan, 3 behind a DAY", x.whoBegan(0), 2);
        Check.lay(x, 0, 0, 2, 3);
        Check.due("whoBegan, 2 and 3", x.whoBegan(0), 5);
        Check.lay(x, 0, 0, -128, 3);
        Check.due("whoBegan, one skipped", x.whoBegan(0), 7);
        Check.lay(x, 0, 0, 1, 1);
        Check.due("whoBegan, a HERMIT", x.whoBegan(0), 16);
        Check.lay(x, 0, 2);
        Check.due("whoBegan, nothing told: not DEAF ones", x.whoBegan(0), 23);
        Check.lay(x, 0, 1, 9);
        Check.due("whoBegan, nobody", x.whoBegan(0), 0);
        Check.due("HEARD stays", x.count(3), 16);
        MoreThanSheHas shy = Check.parish("p10;p10;l01;");
        Check.lay(shy, 0, 0, 1, 2);
        Check.due("whoBegan, SHY ones by even DAYS", shy.whoBegan(0), 3);
        shy.days(1);
        Check.due("whoBegan a DAY on", shy.whoBegan(0), 0);
        Check.lay(shy, 0, 0, 2);
        Check.due("whoBegan a DAY on", shy.whoBegan(0), 3);
        MoreThanSheHas nobody = new MoreThanSheHas();
        Check.lay(nobody, 0, 0, 0);
        Check.due("whoBegan of nobody", nobody.whoBegan(0), 0);
    }

    private static void two() {
        // each would tell three of its own: 3 less 2 is more than nobody
        MoreThanSheHas x = Check.parish("p20;p20;p30;p30;p30;p30;p30;p30;l02;l03;l04;l15;l16;l17;h0;h1;");
        Check.due("two(0, 1, 1)", x.two(0, 1, 1), 11);
        Check.due("HEARD stays", x.count(3), 3);
        Check.due("DAY stays", x.count(1), 0);
        // only the other has somebody worth telling
        x = Check.parish("p20;p20;p30;p30;p30;l02;l03;l04;h0;h1;");
        Check.due("two(0, 1, 1)", x.two(0, 1, 1), 10);
        Check.due("two(1, 0, 1)", x.two(1, 0, 1), 1);
        // three whom both KNOW: it is enough that one tells, and the first such pair is 0 1
        x = Check.parish("p20;p20;p30;p30;p30;l02;l03;l04;l12;l13;l14;h0;h1;");
        Check.due("two(0, 1, 1)", x.two(0, 1, 1), 1);
        // telling one or two is not more than nothing
        x = Check.parish("p20;p20;p30;p30;l02;l03;h0;h1;");
        Check.due("two(0, 1, 30), just as much", x.two(0, 1, 30), 0);
        // a PERSON tells one a DAY
        x = Check.parish("p00;p00;p30;p30;p30;l02;l03;l04;h0;h1;");
        Check.due("two(0, 1, 2)", x.two(0, 1, 2), 0);
        Check.due("two(0, 1, 3)", x.two(0, 1, 3), 10);
        Check.due("two(0, 1, 0)", x.two(0, 1, 0), -1);
        Check.due("two(0, 1, 31)", x.two(0, 1, 31), -1);
        Check.due("two(0, 1, 30)", x.two(0, 1, 30), 10);
        Check.due("two(0, 0, 1)", x.two(0, 0, 1), -1);
        Check.due("two(2, 2, 1)", x.two(2, 2, 1), -1);
        Check.due("two(0, 5, 1)", x.two(0, 5, 1), -1);
        Check.due("two(5, 0, 1)", x.two(5, 0, 1), -1);
        Check.due("two(-1, 0, 1)", x.two(-1, 0, 1), -1);
        Check.due("two(0, -1, 1)", x.two(0, -1, 1), -1);
        Check.due("two(0, 2, 1)", x.two(0, 2, 1), -3);
        Check.due("two(2, 0, 1)", x.two(2, 0, 1), -3);
        Check.due("two(2, 3, 1)", x.two(2, 3, 1), -3);
        Check.due("two(2, 3, 31)", x.two(2, 3, 31), -1);
    }

    private static void dueTwo(String people, String lines, int a, int b, int n, int want) {
        MoreThanSheHas x = Check.parish(people);
        Check.due(lines, Check.told(x, lines) > 0 ? 1 : 0, 1);
        Check.due("two(" + a + ", " + b + ", " + n + ") with " + lines, x.two(a, b, n), want);
    }

    /** Where one would tell just if the other does, and the other just if it does not. */
    private static void twoWithoutPair() {
        dueTwo("p20;p10;p40;p20;p40;p00;p10;p62;p00;h4;h1;",
            "l01;l03;l05;l06;l07;l12;l13;l17;l24;l26;l28;l37;l46;l48;l58;", 4, 1, 3, -4);
        dueTwo("p00;p40;p64;p10;p10;p00;p40;p00;p40;h3;h0;",
            "l01;l04;l05;l13;l15;l25;l28;l36;l37;l38;l47;l56;l58;l67;l68;l78;", 3, 0, 3, -4);
        dueTwo("p50;p10;p20;p64;p20;p50;p30;p20;p64;h1;h8;",
            "l02;l03;l06;l07;l08;l12;l13;l14;l15;l16;l28;l35;l36;l37;l48;", 1, 8, 3, -4);
        dueTwo("p10;p20;p64;p61;p50;p20;p00;p00;p10;h7;h4;",
            "l01;l02;l03;l04;l05;l06;l07;l08;l15;l17;l18;l24;l26;l34;l37;l45;l46;l48;l67;", 7, 4, 2, -4);
        dueTwo("p50;p30;p20;p40;p50;p10;p20;p00;p10;h5;h4;",
            "l02;l04;l05;l06;l07;l15;l16;l17;l23;l25;l27;l28;l34;l35;l37;l46;l48;l57;l67;l78;", 5, 4, 4, -4);
    }

    private static void dueStorms(MoreThanSheHas x, int p, int n, int t, long above, long below) {
        String call = "storms(" + p + ", " + n + ", " + t + ")";
        Check.dueFraction(call, x.storms(p, n, t, 0), x.storms(p, n, t, 1), above, below);
    }

    private static void storms() {
        MoreThanSheHas x = Check.parish("p00;p00;p00;p70;l01;l12;h0;");
        dueStorms(x, 0, 0, 2, 1, 1);
        dueStorms(x, 0, 7, 20, 1, 1);
        dueStorms(x, 1, 0, 2, 0, 1);
        dueStorms(x, 1, 1, 2, 1, 2);
        dueStorms(x, 1, 1, 20, 19, 20);
        dueStorms(x, 1, 2, 3, 8, 9);
        dueStorms(x, 2, 1, 2, 0, 1);
        dueStorms(x, 2, 2, 3, 4, 9);
        dueStorms(x, 2, 3, 4, 27, 32);
        dueStorms(x, 1, 7, 20, 1279999999L, 1280000000L);
        dueStorms(x, 3, 7, 2, 0, 1);
        Check.due("HEARD stays", x.count(3), 1);
        Check.due("DAY stays", x.count(1), 0);
        // DAYS go on in storms: a SHY one tells on DAYS 2 and 4
        MoreThanSheHas shy = Check.parish("p10;p00;l01;h0;");
        dueStorms(shy, 1, 1, 2, 0, 1);
        dueStorms(shy, 1, 3, 5, 4, 5);
        dueStorms(shy, 1, 4, 5, 24, 25);
        long no = Check.LONG_MINUS_1;
        Check.due("storms(4, 0, 2, 0)", x.storms(4, 0, 2, 0), no);
        Check.due("storms(-1, 0, 2, 0)", x.storms(-1, 0, 2, 0), no);
        Check.due("storms(0, -1, 2, 0)", x.storms(0, -1, 2, 0), no);
        Check.due("storms(0, 8, 2, 0)", x.storms(0, 8, 2, 0), no);
        Check.due("storms(0, 0, 1, 0)", x.storms(0, 0, 1, 0), no);
        Check.due("storms(0, 0, 21, 0)", x.storms(0, 0, 21, 0), no);
        Check.due("storms(0, 0, 2, 2)", x.storms(0, 0, 2, 2), no);
        Check.due("storms(0, 0, 2, -1)", x.storms(0, 0, 2, -1), no);
    }

    private static void forged() {
        MoreThanSheHas x = Check.parish("p00;p00;p00;l01;l12;");
        dueForged(x, -4);
        dueForged(x, -4, 1);
        dueForged(x, -4, 1, 2, 1);
        dueForged(x, 3, 1, 2, 1, 0);
        dueForged(x, 1, 1, 1, 0);
        dueForged(x, 0, 0, 2, 1);
        dueForged(x, 2, 1, 2, -128);
        dueForged(x, 0, 257, 2, 1);
        Check.lay(x, 3, 0, 257);
        Check.due("forged of bytes", x.forged(3), -4);
        Check.lay(x, 3, 2, 1, LEAST_INT);
        Check.due("forged does not skip", x.forged(3), 1);
        MoreThanSheHas nobody = new MoreThanSheHas();
        Check.lay(nobody, 0, 0, 0);
        Check.due("forged of nobody", nobody.forged(0), 0);
    }

    private static void dueForged(MoreThanSheHas x, int want, int... numbers) {
        Check.lay(x, 3, 1, numbers);
        Check.due("forged of " + numbers.length + " numbers", x.forged(3), want);
    }

    private static void judge() {
        MoreThanSheHas x = Check.parish("p00;p00;p10;p00;l01;l12;l23;h0;");
        dueJudge(x, -4, 0);
        dueJudge(x, -4, 0, 1, 2, 3, 3, 4);
        dueJudge(x, 4, 0, 1, 2, 3, 3, 3);
        dueJudge(x, 0, 0, 0, 2, 3);
        dueJudge(x, 2, 0, 1, 2, 2);
        dueJudge(x, -4, 0, -128, 2, -128, 3);
        dueJudge(x, 0, 1, -128, 2);
        dueJudge(x, -4, 1, -32768, 2);
        dueJudge(x, 0, 2, -32768, 2);
        dueJudge(x, -4, 2, LEAST_INT, LEAST_INT, 3);
        Check.due("HEARD stays", x.count(3), 1);
        Check.due("DAY stays", x.count(1), 0);
        x.days(1);
        // the SHY one hears on DAY 2 and tells on DAY 4
        dueJudge(x, -4, 0, 2, 3, 3, 4);
        dueJudge(x, 2, 0, 2, 3, 4, 4);
        int[] hundred = new int[100];
        for (int i = 0; i < hundred.length; i++) {
            hundred[i] = i == 99 ? 5 : -128;
        }
        dueJudge(x, 99, 0, hundred);
    }

    private static void dueJudge(MoreThanSheHas x, int want, int sort, int... many) {
        Check.lay(x, 6, sort, many);
        Check.due("judge of " + many.length + " numbers", x.judge(6), want);
    }

    /** By the seed 1 draws below 3 are 2 1 0, 1 1 2, 0 0 0 and so on. */
    private static void years() {
        MoreThanSheHas x = Check.parish("p00;p00;p00;l01;h1;");
        int[] heard = {2, 3, 6};
        int[] lines = {1, 1, 4};
        for (int n = 1; n <= 3; n++) {
            Check.due("years(" + n + ", 1, 0)", x.years(n, 1, 0), heard[n - 1]);
            Check.due("years(" + n + ", 1, 1)", x.years(n, 1, 1), lines[n - 1]);
        }
        Check.due("LINES stay", x.one(0, 3), 2);
        Check.due("count(2)", x.count(2), 1);
        Check.due("HEARD stays", x.count(3), 2);
        Check.due("DAY stays", x.count(1), 0);
        Check.due("years of one", Check.parish("p00;h0;").years(20, -7, 0), 20);
        Check.due("years of one", Check.parish("p00;h0;").years(20, -7, 1), 0);
        Check.due("years(20, 5, 0) of nobody", new MoreThanSheHas().years(20, 5, 0), 0);
        // with 8 DAYS or 10 it would be another number
        Check.due("9 DAYS from DAY 0", Check.parish("p10;p10;p10;p10;p10;p10;p10;p10;p10;h0;").years(20, 24, 0), 90);
        Check.due("9 DAYS from DAY 1", Check.parish("d01;p10;p10;p00;p10;p10;p10;p10;p10;p10;h0;").years(20, 36, 0), 110);
        Check.due("years(0, 1, 0)", x.years(0, 1, 0), -1);
        Check.due("years(21, 1, 0)", x.years(21, 1, 0), -1);
        Check.due("years(-1, 1, 0)", x.years(-1, 1, 0), -1);
        Check.due("years(1, 1, 2)", x.years(1, 1, 2), -1);
        Check.due("years(1, 1, -1)", x.years(1, 1, -1), -1);
    }

    private static void rowRefusals() {
        MoreThanSheHas x = Check.parish("p00;");
        x.keep(1, 1, 2, 3);
        int[] shelves = {-1, 8, Integer.MAX_VALUE, Integer.MIN_VALUE, 0, 1};
        int[] want = {-1, -1, -1, -1, -11, -12};
        for (int i = 0; i < shelves.length; i++) {
            int d = shelves[i];
            Check.due("could(" + d + ")", x.could(d), want[i]);
            Check.due("whatIs(" + d + ", 0, 1)", x.whatIs(d, 0, 1), want[i]);
            Check.due("whoBegan(" + d + ")", x.whoBegan(d), want[i]);
            Check.due("forged(" + d + ")", x.forged(d), want[i]);
            Check.due("judge(" + d + ")", x.judge(d), want[i]);
        }
    }
}
