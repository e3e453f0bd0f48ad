/** Promises 1 and 3 to 7: a test for each sentence that names a boundary case. */
public final class PeopleEdgesTest {
    private static final String NINE = "p00;p00;p00;p00;p00;p00;p00;p00;p00;";
    private static final int MIN = Integer.MIN_VALUE;
    private static final int MAX = Integer.MAX_VALUE;

    public static void main(String[] args) {
        nobody();
        one();
        oneRefused();
        tells();
        cards();
        likes();
        whoHears();
        onADay();
        comes();
        comesRefused();
        line();
        lineRefused();
        told();
        toldRefused();
        days();
        lastDay();
        daysRefused();
        Check.end("PeopleEdgesTest");
    }

    private static void nobody() {
        Check.sentence("A new object: Nobody. HEARD not at first, LINES not at first, DAY 0 at first");
        MoreThanSheHas used = Village.made();
        MoreThanSheHas x = new MoreThanSheHas();
        for (int what = 0; what <= 4; what++) {
            Check.due("count(" + what + ")", x.count(what), 0);
        }
        Check.due("then(0)", x.then(0), 0);
        Check.due("one(0, 0)", x.one(0, 0), -1);
        Check.due("restore()", x.restore(), -3);
        Check.due("the other has its own", used.count(0), 4);
        Check.sentence("SHELVES 0 .. 7 each hold nothing (at first)");
        for (int d = -2; d <= 9; d++) {
            Check.due("comes(" + d + ")", x.comes(d), d >= 0 && d <= 7 ? -11 : -1);
            Check.due("put(" + d + ", 0, 0)", x.put(d, 0, 0), d >= 0 && d <= 7 ? -11 : -1);
        }
        x = Check.parish(NINE);
        Check.sentence("LINES: two PEOPLE have one or not (not at first); HEARD or not (not at first)");
        for (int p = 0; p < 9; p++) {
            Check.due("whom " + p + " KNOWS", x.one(p, 3), 0);
            Check.due("HEARD " + p, x.one(p, 4), 0);
        }
    }

    private static void one() {
        Check.sentence("Of one: KIND (what 0) .. 1 it FEELS (7)");
        MoreThanSheHas x = Village.made();
        int[][] want = {{0, 1, 1, 2, 1, 1, 1, 1}, {1, 2, 2, 5, 1, 1, 1, 0}, {2, 3, 1, 2, 0, 3, 4, 1}, {7, 4, 0, 0, 0, 0, 0, 0}};
        for (int p = 0; p < 4; p++) {
            for (int what = 0; what <= 7; what++) {
                Check.due("one(" + p + ", " + what + ")", x.one(p, what), want[p][what]);
            }
        }
        Check.sentence("One KNOWS those with whom one has a LINE: so many (its NUMBER): 8 at most");
        MoreThanSheHas full = Check.parish(NINE + "l80;l81;l82;l83;l84;l85;l86;l87;");
        Check.due("NUMBER of the last", full.one(8, 2), 8);
        Check.due("whom it KNOWS", full.one(8, 3), 255);
        Check.due("whom the first KNOWS", full.one(0, 3), 256);
    }

    private static void oneRefused() {
        Check.sentence("Of one: -1");
        int[] nobody = {-1, 4, 8, 9, 31, 32, MIN, MAX};
        for (int p : nobody) {
            for (int what = -1; what <= 8; what++) {
                int w = what;
                Village.refused("one(" + p + ", " + w + ")", x -> x.one(p, w), -1);
            }
        }
        int[] nothing = {-1, 8, MIN, MAX};
        for (int what : nothing) {
            Village.refused("one(0, " + what + ")", x -> x.one(0, what), -1);
        }
    }

    private static void tells() {
        Check.sentence("TELLS: SHY 1 on even DAYS, else 0; SNOB 1 more than a SHY one (on the next DAY)");
        int[] days = {0, 1, 2, 59, 60, 997, 998, 999};
        for (int day : days) {
            MoreThanSheHas x = Check.parishOn(day, "p10;p19;p50;p30;");
            int even = day % 2;
            Check.due("SHY behind DAY " + day, x.one(0, 5), even);
            Check.due("SHY of FIGURE 9 behind DAY " + day, x.one(1, 5), even);
            Check.due("SNOB behind DAY " + day, x.one(2, 5), 1 + even);
            Check.due("HERMIT behind DAY " + day, x.one(3, 5), 0);
        }
        Check.sentence("TELLS: BELL FIGURE more than a VICAR; VICAR 1 less than a GOSSIP");
        for (int figure = 0; figure <= 9; figure++) {
            MoreThanSheHas x = Check.parish("p6" + figure + ";p4" + figure + ";p2" + figure + ";p0" + figure + ";p7" + figure + ";");
            int[] want = {2 + figure, 2, 3, 1, 0};
            for (int p = 0; p < want.length; p++) {
                Check.due("TELLS of " + p + ", FIGURE " + figure, x.one(p, 5), want[p]);
            }
        }
    }

    private static void cards() {
        Check.sentence("CARDS: SHY half, cut; SNOB 1 more than a SHY one");
        int[] halves = {0, 0, 1, 1, 2, 2, 3, 3, 4};
        MoreThanSheHas x = Check.parish("p19;p00;p00;p00;p00;p00;p00;p00;p00;");
        MoreThanSheHas snob = Check.parish("p59;p00;p00;p00;p00;p00;p00;p00;p00;");
        for (int n = 0; n <= 8; n++) {
            Check.due("SHY, NUMBER " + n, x.one(0, 6), halves[n]);
            Check.due("SNOB, NUMBER " + n, snob.one(0, 6), halves[n] + 1);
            x.line(0, n + 1);
            snob.line(0, n + 1);
        }
        Check.sentence("CARDS with NUMBER 0 and with FIGURE 0; CARDS of all");
        int[] least = {0, 0, 0, 0, 0, 1, 11, 0};
        int[] nines = {0, 0, 9, 0, 18, 1, 29, 0};
        for (int k = 0; k < 8; k++) {
            Check.due("KIND " + k + ", FIGURE 0", Check.parish("p" + k + "0;").one(0, 6), least[k]);
            Check.due("KIND " + k + ", FIGURE 9", Check.parish("p" + k + "9;").count(4), nines[k]);
        }
        MoreThanSheHas bell = Check.parish("p69;p00;p00;p00;p00;p00;p00;p00;p00;l01;l02;l03;l04;l05;l06;l07;l08;");
        Check.due("a BELL of NUMBER 8, FIGURE 9", bell.one(0, 6), 45);
        Check.due("CARDS of all", bell.count(4), 53);
    }

    /** Who, told with all lines, has HEARD behind DAY 2, which is even. */
    private static void dueLikes(String text, int want) {
        Check.due(text, Check.parish(text).then(2), want);
    }

    private static void likes() {
        // the teller is 0, with NUMBER 2; 1 and 2 are HERMITS, 1 of the lesser NUMBER
        Check.sentence("LIKES: SHY those with a NUMBER no greater than its own");
        dueLikes("p10;p30;p30;p00;p00;l01;l02;l23;h0;", 3);
        dueLikes("p10;p30;p30;p00;p00;l02;l03;l21;k330;h0;", 5);
        dueLikes("p10;p30;p30;p00;p00;l02;l01;l23;l24;k330;h0;l13;l14;", 1);
        Check.sentence("LIKES: SNOB those with a greater NUMBER than its own");
        dueLikes("p50;p30;p30;p00;p00;l02;l01;l23;h0;", 1);
        dueLikes("p50;p30;p30;p00;p00;l02;l01;l23;l24;h0;", 5);
        dueLikes("p50;p30;l01;h0;", 1);
        dueLikes("p10;p30;l01;h0;", 3);
        Check.sentence("LIKES: PERSON any, GOSSIP, VICAR and BELL as a PERSON");
        for (int k : new int[] {0, 2, 4, 6}) {
            dueLikes("p" + k + "0;p30;l01;h0;", 3);
            dueLikes("p" + k + "0;p30;p30;l01;l12;h0;", 3);
            dueLikes("p" + k + "0;p30;p30;p30;l01;l02;l03;h0;d01;k030;d01;", k == 0 ? 3 : k == 2 ? 15 : 7);
        }
    }

    private static void whoHears() {
        Check.sentence("DEAF ones never HEAR, all others do");
        for (int k = 0; k < 8; k++) {
            MoreThanSheHas x = Check.parish("p00;p" + k + "9;l01;h0;");
            Check.due("KIND " + k, x.days(60), k == 7 ? 1 : 2);
            Check.due("told(1), KIND " + k, x.told(1), k == 7 ? -3 : 0);
        }
    }

    private static void onADay() {
        Check.sentence("DAY is 1 more; then");
        MoreThanSheHas shy = Check.parishOn(1, "p10;p00;l01;h0;");
        Check.due("SHY on DAY 2", shy.days(1), 2);
        MoreThanSheHas other = Check.parishOn(2, "p10;p00;p00;l01;l02;h0;");
        Check.due("SHY on DAY 3", other.days(1), 2);
        Check.due("DAY", other.count(1), 3);
        Check.sentence("those who had HEARD ahead of the DAY");
        Check.due("a row of three", Check.parish("p00;p00;p00;l01;l12;h0;").then(1), 3);
        Check.due("a row of three backwards", Check.parish("p00;p00;p00;l01;l12;h2;").then(1), 6);
        Check.sentence("who have not HEARD by then");
        // 0 tells 1, so 2 goes on to 3
        Check.due("by numbers", Check.parish("p00;p00;p00;p00;l01;l21;l23;h0;h2;").then(1), 15);
        Check.due("none left", Check.parish("p00;p00;p00;l01;l21;h0;h2;").then(1), 7);
        Check.sentence("as many as it TELLS at most");
        int[] most = {1, 0, 3, 0, 2, 0, 2, 0};
        for (int k = 0; k < 7; k++) {
            MoreThanSheHas x = Check.parish("p" + k + "0;p00;p00;p00;p00;p00;l01;l02;l03;l04;l05;h0;");
            Check.due("KIND " + k + " of five", x.days(1), 1 + most[k]);
            Check.due("the first ones, KIND " + k, x.count(3), (2 << most[k]) - 1);
            MoreThanSheHas few = Check.parish("p" + k + "0;p00;l01;h0;");
            Check.due("KIND " + k + " of one", few.days(1), most[k] > 0 ? 2 : 1);
        }
        Check.sentence("(DEAF ones not counted)");
        Check.due("a PERSON", Check.parish("p00;p70;p00;l01;l02;h0;").then(1), 5);
        Check.due("a GOSSIP", Check.parish("p20;p70;p00;p70;p00;p00;p00;l01;l02;l03;l04;l05;l06;h0;").then(1), 53);
        Check.due("DEAF ones alone", Check.parish("p00;p70;p70;l01;l02;h0;").then(1), 1);
    }

    private static void comes() {
        Check.sentence("The one on SHELF d more: its number; PEOPLE 0 .. 8 as they come (9 at most)");
        MoreThanSheHas x = new MoreThanSheHas();
        x.keep(7, 1, 3, 9);
        for (int p = 0; p < 9; p++) {
            Check.due("comes(7)", x.comes(7), p);
            Check.due("FIGURE", x.one(p, 1), 9);
            Check.due("PEOPLE", x.count(0), p + 1);
        }
        for (int i = 0; i < 3; i++) {
            Check.due("the tenth", x.comes(7), -2);
            Check.due("PEOPLE", x.count(0), 9);
        }
        Check.sentence("what is taken from a SHELF, stay there");
        Check.due("cost(7)", x.cost(7), 5);
        Check.sentence("one who comes KNOWS nobody and has not HEARD, whoever had its number");
        x = Check.parish("p00;");
        x.image();
        Check.due("others", Check.told(x, "p00;l01;h1;h0;"), 4);
        x.restore();
        x.keep(0, 1, 0, 0);
        Check.due("comes(0)", x.comes(0), 1);
        Check.due("whom it KNOWS", x.one(1, 3), 0);
        Check.due("HEARD", x.count(3), 0);
        Check.due("a text with a FAULT", Check.told(x, "p00;l02;h2;h3;"), -2011);
        Check.due("comes(0)", x.comes(0), 2);
        Check.due("whom it KNOWS", x.one(2, 3), 0);
        Check.due("HEARD", x.count(3), 0);
    }

    private static void comesRefused() {
        Check.sentence("The one on SHELF d more: -1, -11, -12 (a ROW), -2");
        Village.refused("comes(-1)", x -> x.comes(-1), -1);
        Village.refused("comes(8)", x -> x.comes(8), -1);
        Village.refused("comes(MIN)", x -> x.comes(MIN), -1);
        Village.refused("comes(MAX)", x -> x.comes(MAX), -1);
        Village.refused("comes(0), nothing", x -> x.comes(0), -11);
        for (int d : new int[] {2, 3, 4, 6, 7}) {
            Village.refused("comes(" + d + "), a ROW", x -> x.comes(d), -12);
        }
        Check.sentence("Answers of several REFUSALS are the first one as they are told at the call: comes");
        int[] want = {-1, -11, -2, -12};
        int[] shelves = {8, 0, 1, 7};
        MoreThanSheHas x = Check.parish(NINE);
        x.keep(1, 1, 0, 0);
        for (int i = 0; i < want.length; i++) {
            Check.due("comes(" + shelves[i] + "), no room", x.comes(shelves[i]), want[i]);
        }
        Check.due("PEOPLE", x.count(0), 9);
    }

    private static void line() {
        Check.sentence("They KNOW each other, or not any more: 1, 0");
        MoreThanSheHas x = Check.parish(NINE);
        for (int a = 0; a < 9; a++) {
            for (int b = 0; b < a; b++) {
                Check.due("line(" + a + ", " + b + ")", x.line(a, b), 1);
            }
        }
        Check.due("LINES of all", x.count(2), 36);
        Check.due("line(0, 8)", x.line(0, 8), 0);
        Check.due("LINES", x.count(2), 35);
        Check.due("whom 8 KNOWS", x.one(8, 3), 254);
        Check.due("whom 0 KNOWS", x.one(0, 3), 254);
        Check.due("line(8, 0)", x.line(8, 0), 1);
        Check.due("LINES of all", x.count(2), 36);
    }

    private static void lineRefused() {
        Check.sentence("They KNOW each other: -1 (one twice)");
        for (int p = 0; p < 4; p++) {
            int q = p;
            Village.refused("line(" + q + ", " + q + ")", x -> x.line(q, q), -1);
        }
        for (int p : new int[] {-1, 4, 8, 9, 32, 33, MIN, MAX}) {
            Village.refused("line(0, " + p + ")", x -> x.line(0, p), -1);
            Village.refused("line(" + p + ", 1)", x -> x.line(p, 1), -1);
            Village.refused("line(" + p + ", " + p + ")", x -> x.line(p, p), -1);
        }
        Check.due("of nobody", new MoreThanSheHas().line(0, 1), -1);
    }

    private static void told() {
        Check.sentence("It has HEARD, or not any more: 1, 0");
        MoreThanSheHas x = Check.parish(NINE);
        for (int answer : new int[] {1, 0, 1}) {
            for (int p = 0; p < 9; p++) {
                Check.due("told(" + p + ")", x.told(p), answer);
            }
            Check.due("HEARD", x.count(3), answer * 511);
        }
        MoreThanSheHas one = Check.parish("p30;p60;p10;h1;");
        Check.due("told(2)", one.told(2), 1);
        Check.due("just it more", one.count(3), 6);
        Check.due("told(1)", one.told(1), 0);
        Check.due("just it less", one.count(3), 4);
    }

    private static void toldRefused() {
        Check.sentence("It has HEARD, or not any more: -1, -3 it is DEAF");
        for (int p : new int[] {-1, 4, 8, 9, 32, 35, MIN, MAX}) {
            Village.refused("told(" + p + ")", x -> x.told(p), -1);
        }
        Village.refused("told(3), DEAF", x -> x.told(3), -3);
        Check.due("of nobody", new MoreThanSheHas().told(0), -1);
        MoreThanSheHas x = Check.parish("p70;k010;");
        Check.due("told(0), DEAF no more", x.told(0), 1);
    }

    private static void days() {
        Check.sentence("n DAYS (1 .. 60): how many have HEARD");
        MoreThanSheHas x = new MoreThanSheHas();
        Check.due("days(1) of nobody", x.days(1), 0);
        Check.due("DAY", x.count(1), 1);
        Check.due("days(60) of nobody", x.days(60), 0);
        Check.due("DAY", x.count(1), 61);
        MoreThanSheHas row = Check.parish(NINE + "l01;l12;l23;l34;l45;l56;l67;l78;h0;");
        Check.due("days(7)", row.days(7), 8);
        Check.due("DAY", row.count(1), 7);
        Check.due("days(1)", row.days(1), 9);
        Check.due("days(60), all have HEARD", row.days(60), 9);
        Check.due("nobody has HEARD", Check.parish(NINE + "l01;").days(60), 0);
    }

    private static void lastDay() {
        Check.sentence("days() is refused (-3), if DAY and n together are above 999; none of them goes then");
        int[] from = {998, 998, 999, 939, 940, 940};
        int[] n = {1, 2, 1, 60, 60, 59};
        int[] want = {1, -3, -3, 1, -3, 1};
        for (int i = 0; i < n.length; i++) {
            MoreThanSheHas x = Check.parishOn(from[i], "p00;p30;h0;");
            Check.due("days(" + n[i] + ") from DAY " + from[i], x.days(n[i]), want[i]);
            Check.due("DAY", x.count(1), want[i] == 1 ? from[i] + n[i] : from[i]);
        }
        MoreThanSheHas x = Check.parishOn(998, "p00;p00;p00;l01;h2;");
        x.line(1, 2);
        Check.due("days(2) from DAY 998", x.days(2), -3);
        Check.due("nobody tells", x.count(3), 4);
        Check.due("days(1) from DAY 998", x.days(1), 2);
        Check.due("days(1) from DAY 999", x.days(1), -3);
        Check.due("days(60) from DAY 999", x.days(60), -3);
        Check.due("HEARD", x.count(3), 6);
    }

    private static void daysRefused() {
        Check.sentence("n DAYS (1 .. 60): -1");
        for (int n : new int[] {0, -1, 61, 1000, MIN, MAX}) {
            Village.refused("days(" + n + ")", x -> x.days(n), -1);
            Check.due("days(" + n + ") from DAY 999", Check.parishOn(999, "p00;").days(n), -1);
        }
    }
}
