/** Promises 1 to 7: a new object, the parish as told. */
public final class ParishTest {
    private static final String[] KIND_TEXTS = {"p0", "p1", "p2", "p3", "p4", "p5", "p6", "p7"};

    public static void main(String[] args) {
        newObject();
        textsThatStand();
        textsBrokenFirst();
        textsNotAsTheyMustBe();
        textsLeaveAllAsItWas();
        textRefusals();
        one();
        kindsTellAndSend();
        comes();
        line();
        told();
        days();
        likes();
        tellsByNumbers();
        Check.end("ParishTest");
    }

    private static void newObject() {
        MoreThanSheHas x = new MoreThanSheHas();
        for (int what = 0; what <= 4; what++) {
            Check.due("count(" + what + ") of a new one", x.count(what), 0);
        }
        for (int d = 0; d < 8; d++) {
            Check.due("cost(" + d + ") of a new one", x.cost(d), -11);
            Check.due("parish(" + d + ") of a new one", x.parish(d), -11);
        }
        Check.due("one(0, 0) of a new one", x.one(0, 0), -1);
        Check.due("restore() of a new one", x.restore(), -3);
    }

    private static void textsThatStand() {
        MoreThanSheHas x = new MoreThanSheHas();
        Check.due("p07;", Check.told(x, "p07;"), 1);
        Check.due("its KIND", x.one(0, 0), 0);
        Check.due("its FIGURE", x.one(0, 1), 7);
        Check.due("a second text", Check.told(x, "p29;l01;h1;d01;k139;"), 5);
        Check.due("count(0)", x.count(0), 2);
        Check.due("count(1)", x.count(1), 1);
        Check.due("count(2)", x.count(2), 1);
        Check.due("count(3)", x.count(3), 3);
        Check.due("KIND of 1", x.one(1, 0), 3);
        Check.due("FIGURE of 1", x.one(1, 1), 9);
        Check.due("lines and hearing told again", Check.told(x, "l10;h1;h0;h1;l10;l01;"), 6);
        Check.due("count(2)", x.count(2), 0);
        Check.due("count(3)", x.count(3), 2);
        Check.due("becoming DEAF", Check.told(x, "k172;"), 1);
        Check.due("count(3)", x.count(3), 0);
        Check.due("becoming a PERSON", Check.told(x, "k105;h1;"), 2);
        Check.due("count(3)", x.count(3), 2);
        Check.due("one of its own KIND again keeps what it has HEARD", Check.told(x, "k104;"), 1);
        Check.due("count(3)", x.count(3), 2);
        Check.due("the text stays there", x.parish(7), 1);
        Check.due("d60;", Check.told(x, "d60;"), 1);
        Check.due("count(1)", x.count(1), 61);
        Check.due("25 statements", Check.told(x, "l01;l01;l01;l01;l01;l01;l01;l01;l01;l01;l01;l01;l01;"
            + "l01;l01;l01;l01;l01;l01;l01;l01;l01;l01;l01;l01;"), 25);
        Check.due("count(2)", x.count(2), 1);
        MoreThanSheHas chain = Check.parish("p00;p00;p00;l01;l12;h0;d02;");
        Check.due("DAYS in a text", chain.count(3), 7);
    }

    private static void dueText(MoreThanSheHas x, String text, int want) {
        Check.due("parish of '" + text + "'", Check.told(x, text), want);
    }

    private static void textsBrokenFirst() {
        MoreThanSheHas x = Check.parish("p00;p00;");
        dueText(x, "", -1000);
        dueText(x, ";", -1000);
        dueText(x, "q00;", -1000);
        dueText(x, "P00;", -1000);
        dueText(x, "p", -1001);
        dueText(x, "p0", -1002);
        dueText(x, "p00", -1003);
        dueText(x, "px0;", -1001);
        dueText(x, "p0x;", -1002);
        dueText(x, "p0;", -1002);
        dueText(x, "p000;", -1003);
        dueText(x, "p00:", -1003);
        dueText(x, "p00; ", -1004);
        dueText(x, "p00;;", -1004);
        dueText(x, "p/0;", -1001);
        dueText(x, "p:0;", -1001);
        dueText(x, "p0/;", -1002);
        dueText(x, "p0:;", -1002);
        dueText(x, "l", -1001);
        dueText(x, "l0;", -1002);
        dueText(x, "l01", -1003);
        dueText(x, "l012;", -1003);
        dueText(x, "h;", -1001);
        dueText(x, "h0", -1002);
        dueText(x, "h00;", -1002);
        dueText(x, "k00;", -1003);
        dueText(x, "k000", -1004);
        dueText(x, "k0000;", -1004);
        dueText(x, "k0a0;", -1002);
        dueText(x, "d1;", -1002);
        dueText(x, "d", -1001);
        dueText(x, "d001;", -1003);
        dueText(x, "p00;l01;h", -1009);
        dueText(x, "p90;d", -1005);
        dueText(x, "p80;p00;x", -1008);
        Check.lay(x, 7, 0, 'p', '0', -1, ';');
        Check.due("a byte below 0", x.parish(7), -1002);
        Check.lay(x, 7, 0, 'p' + 256, '0' - 256, '0', ';' + 512);
        Check.due("bytes keep their lowest bits", x.parish(7), 1);
        Check.due("a row of zeros", x.row(7, 0, 100) == 0 ? x.parish(7) : 0, -1000);
        dueText(x, "l01;l01;l01;l01;l01;l01;l01;l01;l01;l01;l01;l01;l01;"
            + "l01;l01;l01;l01;l01;l01;l01;l01;l01;l01;l01;l01", -1099);
    }

    private static void textsNotAsTheyMustBe() {
        MoreThanSheHas x = Check.parish("p00;p70;");
        dueText(x, "p80;", -2000);
        dueText(x, "p99;", -2000);
        dueText(x, "p00;l22;", -2004);
        dueText(x, "l03;", -2000);
        dueText(x, "l20;", -2000);
        dueText(x, "l01;l02;p00;", -2004);
        dueText(x, "l11;", -2000);
        dueText(x, "h2;", -2000);
        dueText(x, "h1;", -2000);
        dueText(x, "h0;h1;", -2003);
        dueText(x, "k200;", -2000);
        dueText(x, "k080;", -2000);
        dueText(x, "k090;p00;", -2000);
        dueText(x, "h0;k070;h0;", -2008);
        dueText(x, "d00;", -2000);
        dueText(x, "d61;", -2000);
        dueText(x, "d99;", -2000);
        dueText(x, "h0;d60;d61;d00;", -2007);
        dueText(x, "p00;p00;p00;p00;p00;p00;p00;p00;", -2028);
        dueText(x, "p00;p00;p00;p00;p00;p00;p00;", 7);
        dueText(x, "p00;", -2000);
        dueText(x, "d60;d60;d60;d60;d60;d60;d60;d60;d60;d60;d60;d60;d60;d60;d60;d60;d40;", -2064);
        dueText(x, "d60;d60;d60;d60;d60;d60;d60;d60;d60;d60;d60;d60;d60;d60;d60;d60;d39;", 17);
        Check.due("count(1)", x.count(1), 999);
        dueText(x, "d01;", -2000);
    }

    private static void textsLeaveAllAsItWas() {
        MoreThanSheHas x = Check.parish("p00;p25;p10;l01;h0;d03;");
        String before = Check.state(x);
        dueText(x, "p00;l12;h2;k079;d05;l33;l44;", -2020);
        Check.dueState("a text of fault 2", x, before);
        dueText(x, "p00;l12;h2;k079;d05;l01;l", -1025);
        Check.dueState("a text of fault 1", x, before);
        dueText(x, "d01;k070;h0;", -2009);
        Check.dueState("a text that makes one DEAF", x, before);
        Check.dueElement(x, 7, 0, 0, 'd');
        Check.dueElement(x, 7, 11, 0, ';');
    }

    private static void textRefusals() {
        MoreThanSheHas x = new MoreThanSheHas();
        Check.due("parish(-1)", x.parish(-1), -1);
        Check.due("parish(8)", x.parish(8), -1);
        Check.due("parish(MAX)", x.parish(Integer.MAX_VALUE), -1);
        Check.due("parish(MIN)", x.parish(Integer.MIN_VALUE), -1);
        Check.due("parish(3), nothing", x.parish(3), -11);
        x.keep(3, 1, 0, 0);
        Check.due("parish(3), a KIND", x.parish(3), -12);
        Check.lay(x, 3, 1, 'p', '0', '0', ';');
        Check.due("parish(3), shorts", x.parish(3), -12);
        Check.lay(x, 3, 2, 'p', '0', '0', ';');
        Check.due("parish(3), ints", x.parish(3), -12);
        Check.lay(x, 3, 0, 'p', '0', '0', ';');
        Check.due("parish(3), bytes", x.parish(3), 1);
        Check.due("parish(3), again", x.parish(3), 1);
        Check.due("count(0)", x.count(0), 2);
    }

    private static void one() {
        MoreThanSheHas x = Check.parish("p23;p58;p00;p00;l01;l12;l20;l03;h1;");
        int[][] want = {{2, 3, 3, 14, 0, 3, 6, 0}, {5, 8, 2, 5, 1, 1, 2, 1}, {0, 0, 2, 3, 0, 1, 2, 1}, {0, 0, 1, 1, 0, 1, 1, 1}};
        for (int p = 0; p < want.length; p++) {
            for (int what = 0; what <= 7; what++) {
                Check.due("one(" + p + ", " + what + ")", x.one(p, what), want[p][what]);
            }
        }
        Check.due("one(4, 0)", x.one(4, 0), -1);
        Check.due("one(-1, 0)", x.one(-1, 0), -1);
        Check.due("one(9, 0)", x.one(9, 0), -1);
        Check.due("one(0, 8)", x.one(0, 8), -1);
        Check.due("one(0, -1)", x.one(0, -1), -1);
        Check.due("one(MAX, MIN)", x.one(Integer.MAX_VALUE, Integer.MIN_VALUE), -1);
        Check.due("one(2, 5) at an even DAY", x.one(1, 5), 1);
        x.days(1);
        Check.due("a SNOB on DAY 2", x.one(1, 5), 2);
    }

    /** TELLS on odd and even DAYS and CARDS of each KIND with FIGURE 3 and NUMBER 5. */
    private static void kindsTellAndSend() {
        int[] odd = {1, 0, 3, 0, 2, 1, 5, 0};
        int[] even = {1, 1, 3, 0, 2, 2, 5, 0};
        int[] cards = {5, 2, 8, 0, 16, 3, 27, 0};
        for (int k = 0; k < 8; k++) {
            MoreThanSheHas x = Check.parish(KIND_TEXTS[k] + "3;p00;p00;p00;p00;p00;l01;l02;l03;l04;l05;");
            Check.due("KIND " + k + " TELLS on DAY 1", x.one(0, 5), odd[k]);
            Check.due("KIND " + k + " CARDS", x.one(0, 6), cards[k]);
            Check.due("KIND " + k + " CARDS of all", x.count(4), cards[k] + 5);
            x.days(1);
            Check.due("KIND " + k + " TELLS on DAY 2", x.one(0, 5), even[k]);
        }
        MoreThanSheHas x = Check.parish("p60;p69;p49;p29;p50;p10;");
        int[] tells = {2, 11, 2, 3, 1, 0};
        int[] sends = {11, 29, 18, 9, 1, 0};
        for (int p = 0; p < tells.length; p++) {
            Check.due("TELLS of " + p, x.one(p, 5), tells[p]);
            Check.due("CARDS of " + p, x.one(p, 6), sends[p]);
        }
        for (int i = 0; i < 16; i++) {
            x.days(60);
        }
        x.days(39);
        Check.due("a SHY one on the DAY behind 999", x.one(5, 5), 1);
    }

    private static void comes() {
        MoreThanSheHas x = new MoreThanSheHas();
        Check.due("comes(-1)", x.comes(-1), -1);
        Check.due("comes(8)", x.comes(8), -1);
        Check.due("comes(0), nothing", x.comes(0), -11);
        Check.lay(x, 0, 0, 1);
        Check.due("comes(0), a ROW", x.comes(0), -12);
        for (int p = 0; p < 9; p++) {
            x.keep(0, 1, p % 8, p);
            Check.due("comes(0), the " + p, x.comes(0), p);
            Check.due("KIND", x.one(p, 0), p % 8);
            Check.due("FIGURE", x.one(p, 1), p);
            Check.due("HEARD", x.one(p, 4), 0);
            Check.due("whom it KNOWS", x.one(p, 3), 0);
        }
        Check.due("the tenth", x.comes(0), -2);
        Check.due("the tenth of nowhere", x.comes(8), -1);
        Check.due("the tenth, nothing", x.comes(1), -11);
        Check.lay(x, 1, 2);
        Check.due("the tenth, a ROW", x.comes(1), -12);
        Check.due("count(0)", x.count(0), 9);
        Check.due("what is taken from a SHELF stays there", x.cost(0), 1);
    }

    private static void line() {
        MoreThanSheHas x = Check.parish("p00;p00;p00;");
        Check.due("line(0, 2)", x.line(0, 2), 1);
        Check.due("one(0, 3)", x.one(0, 3), 4);
        Check.due("one(2, 3)", x.one(2, 3), 1);
        Check.due("one(1, 3)", x.one(1, 3), 0);
        Check.due("line(2, 0)", x.line(2, 0), 0);
        Check.due("count(2)", x.count(2), 0);
        Check.due("line(1, 1)", x.line(1, 1), -1);
        Check.due("line(0, 3)", x.line(0, 3), -1);
        Check.due("line(3, 0)", x.line(3, 0), -1);
        Check.due("line(-1, 0)", x.line(-1, 0), -1);
        Check.due("line(0, -1)", x.line(0, -1), -1);
        Check.due("line(3, 3)", x.line(3, 3), -1);
        Check.due("line(MIN, MAX)", x.line(Integer.MIN_VALUE, Integer.MAX_VALUE), -1);
        Check.due("count(2)", x.count(2), 0);
    }

    private static void told() {
        MoreThanSheHas x = Check.parish("p00;p70;p30;");
        Check.due("told(0)", x.told(0), 1);
        Check.due("told(2)", x.told(2), 1);
        Check.due("count(3)", x.count(3), 5);
        Check.due("told(0)", x.told(0), 0);
        Check.due("count(3)", x.count(3), 4);
        Check.due("told(1)", x.told(1), -3);
        Check.due("told(3)", x.told(3), -1);
        Check.due("told(-1)", x.told(-1), -1);
        Check.due("told(40)", x.told(40), -1);
        Check.due("count(3)", x.count(3), 4);
    }

    private static void days() {
        MoreThanSheHas x = Check.parish("p00;p00;p00;p00;p00;l01;l12;l23;h0;");
        Check.due("days(1)", x.days(1), 2);
        Check.due("days(2)", x.days(2), 4);
        Check.due("count(3)", x.count(3), 15);
        Check.due("count(1)", x.count(1), 3);
        Check.due("days(0)", x.days(0), -1);
        Check.due("days(-1)", x.days(-1), -1);
        Check.due("days(61)", x.days(61), -1);
        Check.due("days(MAX)", x.days(Integer.MAX_VALUE), -1);
        Check.due("days(60)", x.days(60), 4);
        Check.due("count(1)", x.count(1), 63);
        for (int i = 0; i < 15; i++) {
            x.days(60);
        }
        Check.due("count(1)", x.count(1), 963);
        Check.due("days(37)", x.days(37), -3);
        Check.due("days(61) ahead of 999", x.days(61), -1);
        x.line(3, 4);
        Check.due("days(60) above 999", x.days(60), -3);
        Check.due("none of them goes", x.count(1), 963);
        Check.due("nobody more has HEARD", x.count(3), 15);
        Check.due("days(36)", x.days(36), 5);
        Check.due("count(1)", x.count(1), 999);
        Check.due("days(1)", x.days(1), -3);
        Check.due("days(0)", x.days(0), -1);
    }

    /** One of each KIND in the middle of three HERMITS, then those that are particular. */
    private static void likes() {
        int[][] heardBehind = {{3, 7, 15}, {1, 3, 3}, {15, 15, 15}, {1, 1, 1}, {7, 15, 15}, {1, 1, 1}, {7, 15, 15}};
        for (int k = 0; k < heardBehind.length; k++) {
            MoreThanSheHas x = Check.parish(KIND_TEXTS[k] + "0;p30;p30;p30;l01;l02;l03;h0;");
            for (int n = 1; n <= 3; n++) {
                x.days(1);
                Check.due("KIND " + k + " told by DAY " + n, x.count(3), heardBehind[k][n - 1]);
            }
        }
        // a SHY one of NUMBER 2 beside one of NUMBER 1 and one of NUMBER 3
        MoreThanSheHas shy = Check.parish("p10;p30;p30;p00;p00;l01;l02;l13;l14;h0;");
        Check.due("SHY, DAY 1", shy.days(1), 1);
        Check.due("SHY, DAY 2", shy.days(1), 2);
        Check.due("SHY tells one of no greater NUMBER", shy.count(3), 5);
        Check.due("SHY never tells one of a greater", shy.days(60), 2);
        MoreThanSheHas even = Check.parish("p10;p30;p00;p00;l01;l12;h0;d02;");
        Check.due("SHY, a greater NUMBER", even.count(3), 1);
        even.line(0, 3);
        Check.due("SHY, the same NUMBER", even.days(2), 2);
        // a SNOB of NUMBER 2 beside one of NUMBER 2, one of NUMBER 3
        MoreThanSheHas snob = Check.parish("p50;p30;p30;p00;p00;l01;l02;l13;l23;l24;h0;");
        Check.due("SNOB, DAY 1", snob.days(1), 2);
        Check.due("SNOB tells one of a greater NUMBER", snob.count(3), 5);
        Check.due("SNOB never tells one of the same", snob.days(59), 2);
        MoreThanSheHas two = Check.parish("p50;p30;p30;p30;l01;l12;l23;l13;h0;d01;");
        Check.due("SNOB on odd DAYS tells one", two.count(3), 3);
        MoreThanSheHas both = Check.parish("p50;p30;p30;p30;l01;l02;l12;l13;l23;d01;h0;");
        Check.due("SNOB on even DAYS tells two", both.days(1), 3);
        Check.due("count(3)", both.count(3), 7);
        MoreThanSheHas bell = Check.parish("p61;p70;p30;p30;p30;p30;l01;l02;l03;l04;l05;h0;");
        Check.due("BELL tells FIGURE more than a VICAR, DEAF ones not counted", bell.days(1), 4);
        Check.due("count(3)", bell.count(3), 29);
        MoreThanSheHas many = Check.parish("p69;p70;p30;p30;p30;p30;p30;p30;p30;l01;l02;l03;l04;l05;l06;l07;l08;h0;");
        Check.due("BELL tells all", many.days(1), 8);
        Check.due("count(3)", many.count(3), 509);
    }

    private static void tellsByNumbers() {
        // 1 tells 0, 2 knows 0 too and goes on to 3, as 0 has HEARD by then
        MoreThanSheHas x = Check.parish("p00;p00;p00;p00;l01;l02;l23;h1;h2;");
        Check.due("days(1)", x.days(1), 4);
        // who has HEARD on a DAY does not tell on it
        MoreThanSheHas chain = Check.parish("p00;p00;p00;l01;l12;h0;");
        Check.due("days(1)", chain.days(1), 2);
        Check.due("count(3)", chain.count(3), 3);
        Check.due("days(1)", chain.days(1), 3);
    }
}
