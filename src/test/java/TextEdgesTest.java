/** Promise 2: a test for each sentence on THE TEXT that names a boundary case. */
public final class TextEdgesTest {
    private static final String[] STATEMENTS = {"p00;", "l01;", "h0;", "k000;", "d01;"};
    private static final String TWO = "p00;p00;";
    private static final String NINE = "p00;p00;p00;p00;p00;p00;p00;p00;p00;";
    /** 24 statements, 96 bytes. */
    private static final String LINES_24 = "l01;".repeat(24);

    public static void main(String[] args) {
        oneAtLeast();
        full();
        lacking();
        wrongBytes();
        digitsAsTold();
        placesOfFaults();
        oneMore();
        lineOrNot();
        heardOrNot();
        becomes();
        daysInTexts();
        oneBehindTheOther();
        withOneNothing();
        staysThere();
        refusals();
        Check.end("TextEdgesTest");
    }

    /** A new parish of those people is told the text; with a FAULT nothing of it comes. */
    private static MoreThanSheHas due(String people, String text, int want) {
        MoreThanSheHas x = people.isEmpty() ? new MoreThanSheHas() : Check.parish(people);
        String before = Check.state(x);
        Check.due("'" + people + "', then '" + text + "'", Check.told(x, text), want);
        if (want < 0) {
            Check.dueState("'" + people + "', then '" + text + "'", x, before);
        }
        return x;
    }

    private static void oneAtLeast() {
        Check.sentence("STATEMENTS, each with \";\" behind, one at least");
        due("", "", -1000);
        due("", ";", -1000);
        due("", "p00", -1003);
        due("", "p00;", 1);
        due("", "p00;p00", -1007);
        due("", "p00;p00;", 2);
        due("", "p00;;", -1004);
        due("", ";p00;", -1000);
    }

    private static void full() {
        Check.sentence("0 .. 100 elements");
        due(TWO, LINES_24 + "l01;", 25);
        due(TWO, LINES_24 + "l01", -1099);
        due(TWO, LINES_24 + "k000", -1100);
        due(TWO, LINES_24 + "l00;", -2096);
        due(TWO, "h0;".repeat(33), 33);
        due(TWO, "h0;".repeat(33) + "h", -1100);
        due(TWO, "k000;".repeat(20), 20);
        due(TWO, "k000;".repeat(19) + "k900;", -2095);
    }

    private static void lacking() {
        Check.sentence("the place of the first byte with which no PARISH can go on (the end, if something lacks)");
        for (String statement : STATEMENTS) {
            for (int m = 0; m < statement.length(); m++) {
                String start = statement.substring(0, m);
                due(TWO, start, -1000 - m);
                if (m > 0) {
                    due(TWO, "l01;" + start, -1004 - m);
                }
            }
        }
    }

    private static void wrongBytes() {
        Check.sentence("the place of the first byte with which no PARISH can go on");
        for (String statement : STATEMENTS) {
            for (int at = 0; at < statement.length(); at++) {
                for (int b = Byte.MIN_VALUE; b <= Byte.MAX_VALUE; b++) {
                    if (!stands(statement, at, b)) {
                        dueByte(statement, at, b);
                    }
                }
            }
        }
    }

    private static boolean stands(String statement, int at, int b) {
        if (at == 0) {
            return "plhkd".indexOf(b) >= 0;
        }
        return at == statement.length() - 1 ? b == ';' : b >= '0' && b <= '9';
    }

    private static void dueByte(String statement, int at, int b) {
        MoreThanSheHas x = Check.parish(TWO);
        Check.told(x, statement);
        int[] bytes = (statement + statement).chars().toArray();
        bytes[at] = b;
        Check.lay(x, 0, 0, bytes);
        Check.due("the byte " + b + " at " + at + " of '" + statement + "'", x.parish(0), -1000 - at);
    }

    private static void digitsAsTold() {
        Check.sentence("numbers in THE TEXT have just as many digits as told");
        String[] fewer = {"p0;", "l0;", "h;", "k00;", "d1;"};
        String[] more = {"p000;", "l001;", "h00;", "k0000;", "d001;"};
        for (int i = 0; i < fewer.length; i++) {
            due(TWO, fewer[i], -1000 - (fewer[i].length() - 1));
            due(TWO, more[i], -1000 - (more[i].length() - 2));
        }
        due(TWO, "p 0;", -1001);
        due(TWO, "p+0;", -1001);
        due(TWO, "d-1;", -1001);
    }

    private static void placesOfFaults() {
        Check.sentence("else kind 2 the place of the letter of the first STATEMENT that is not as it must be");
        due(TWO, "p80;x", -1004);
        due(TWO, "h9;h", -1004);
        due(TWO, "d00;p00;;", -1008);
        due(TWO, "d00;p00;", -2000);
        due(TWO, "p00;d00;h9;", -2004);
        due(TWO, "h0;l01;k000;d01;p00;l33;", -2020);
    }

    private static void oneMore() {
        Check.sentence("\"p\" KIND, FIGURE (a digit each): one more");
        for (int k = 0; k <= 9; k++) {
            MoreThanSheHas x = due("", "p" + k + (9 - k) + ";", k <= 7 ? 1 : -2000);
            Check.due("KIND " + k, x.one(0, 0), k <= 7 ? k : -1);
            Check.due("FIGURE " + (9 - k), x.one(0, 1), k <= 7 ? 9 - k : -1);
        }
        Check.sentence("PEOPLE 0 .. 8 as they come (9 at most): no room");
        Check.due("the ninth", due("", NINE, 9).count(0), 9);
        due("", NINE + "p00;", -2036);
        due(NINE, "p00;", -2000);
        due(NINE, "p70;", -2000);
        due(NINE, "l08;p00;", -2004);
        due("p00;", NINE, -2032);
    }

    private static void lineOrNot() {
        Check.sentence("\"l\" two PEOPLE: they KNOW each other, or, told again, not");
        Check.due("told once", due(TWO, "l01;", 1).count(2), 1);
        Check.due("told again", due(TWO, "l01;l01;", 2).count(2), 0);
        Check.due("told again the other way", due(TWO, "l01;l10;", 2).count(2), 0);
        Check.due("three times", due(TWO, "l10;l01;l10;", 3).one(0, 3), 2);
        Check.due("the last one", due(NINE, "l08;", 1).one(8, 3), 1);
        Check.sentence("no such one, one twice");
        due(TWO, "l02;", -2000);
        due(TWO, "l20;", -2000);
        due(TWO, "l09;", -2000);
        due(TWO, "l00;", -2000);
        due(TWO, "l11;", -2000);
        due(TWO, "l22;", -2000);
        due(NINE, "l09;", -2000);
        due(NINE, "l90;", -2000);
        due(NINE, "l88;", -2000);
        due("", "l01;", -2000);
    }

    private static void heardOrNot() {
        Check.sentence("\"h\" one: has HEARD, or, told again, not (DEAF: never)");
        Check.due("told once", due(TWO, "h1;", 1).count(3), 2);
        Check.due("told again", due(TWO, "h1;h1;", 2).count(3), 0);
        Check.due("three times", due(TWO, "h1;h1;h1;", 3).count(3), 2);
        Check.due("the last one", due(NINE, "h8;", 1).count(3), 256);
        due(TWO, "h2;", -2000);
        due(NINE, "h9;", -2000);
        due("", "h0;", -2000);
        Check.sentence("a DEAF one HEARING");
        due("p70;", "h0;", -2000);
        due("p00;p79;", "h0;h1;", -2003);
        for (int k = 0; k <= 6; k++) {
            Check.due("KIND " + k, due("p" + k + "0;", "h0;", 1).count(3), 1);
        }
    }

    private static void becomes() {
        Check.sentence("\"k\" one, KIND, FIGURE: it becomes so");
        for (int k = 0; k <= 9; k++) {
            MoreThanSheHas x = due("p00;p35;", "k1" + k + "9;", k <= 7 ? 1 : -2000);
            Check.due("KIND", x.one(1, 0), k <= 7 ? k : 3);
            Check.due("FIGURE", x.one(1, 1), k <= 7 ? 9 : 5);
            Check.due("KIND of the other", x.one(0, 0), 0);
        }
        Check.due("FIGURE 0", due("p09;", "k020;", 1).one(0, 1), 0);
        due(TWO, "k200;", -2000);
        due(NINE, "k900;", -2000);
        due("", "k000;", -2000);
        Check.due("LINES stay", due("p00;p00;l01;", "k030;", 1).count(2), 1);
        Check.due("HEARD stays", due("p00;p00;h0;", "k036;", 1).count(3), 1);
        Check.sentence("Who becomes DEAF has not HEARD then");
        Check.due("DEAF", due("p00;p00;h0;h1;", "k071;", 1).count(3), 2);
        Check.due("DEAF, and not any more", due("p00;p00;h0;h1;", "k071;k000;", 2).count(3), 2);
        Check.due("then it can", due("p00;p00;h0;h1;", "k071;k000;h0;", 3).count(3), 3);
        Check.due("the last one DEAF", due(NINE + "h7;h8;", "k879;", 1).count(3), 128);
        Check.due("the last one not any more", due(NINE + "h7;h8;", "k879;k800;h8;", 3).count(3), 384);
        Check.due("DEAF again", due("p70;", "k072;", 1).count(3), 0);
    }

    private static void daysInTexts() {
        Check.sentence("\"d\" DAYS (2 digits, 1 .. 60)");
        due("", "d00;", -2000);
        Check.due("d01;", due("", "d01;", 1).count(1), 1);
        Check.due("d09;", due("", "d09;", 1).count(1), 9);
        Check.due("d10;", due("", "d10;", 1).count(1), 10);
        Check.due("d60;", due("", "d60;", 1).count(1), 60);
        due("", "d61;", -2000);
        due("", "d70;", -2000);
        due("", "d99;", -2000);
        Check.sentence("in THE TEXT kind 2, if DAY and n together are above 999; none of them goes then");
        String days960 = "d60;".repeat(16);
        Check.due("999", due("", days960 + "d39;", 17).count(1), 999);
        due("", days960 + "d40;", -2064);
        due(days960 + "d39;", "d01;", -2000);
        Check.due("998 and 1", due(days960 + "d38;", "d01;", 1).count(1), 999);
        due(days960 + "d38;", "d02;", -2000);
        due(days960 + "d38;", "d01;d01;", -2004);
        Check.due("939 and 60", due("d60;".repeat(15) + "d39;", "d60;", 1).count(1), 999);
        due("d60;".repeat(15) + "d40;", "d60;", -2000);
    }

    private static void oneBehindTheOther() {
        Check.sentence("STATEMENTS are tried one behind the other, each on what those ahead of it made");
        due("", "p00;p00;l01;h1;", 4);
        due("", "p00;l01;p00;", -2004);
        due("", "h0;p00;", -2000);
        due("p70;", "k000;h0;", 2);
        due("p00;", "k070;h0;", -2005);
        due("", "p70;k000;h0;k070;h0;", -2017);
        Check.due("a DAY ahead of the LINE", due("p00;p00;h0;", "d01;l01;", 2).count(3), 1);
        Check.due("a DAY behind the LINE", due("p00;p00;h0;", "l01;d01;", 2).count(3), 3);
        Check.sentence("and the first that can't be done so is told (kind 2)");
        due("p00;", "l01;h1;k100;", -2000);
        due("p00;", "h0;l01;h1;", -2003);
    }

    private static void withOneNothing() {
        Check.sentence("Without FAULT all of it comes, with one nothing");
        MoreThanSheHas x = due("p00;p25;l01;h0;d01;", "p79;l02;h1;k135;d60;", 5);
        Check.due("PEOPLE", x.count(0), 3);
        Check.due("DAY", x.count(1), 61);
        Check.due("LINES", x.count(2), 2);
        Check.due("HEARD", x.count(3), 3);
        Check.due("KIND", x.one(1, 0), 3);
        due("p00;p25;l01;h0;d01;", "p79;l02;h1;k135;d60;d00;", -2020);
        due("p00;p25;l01;h0;d01;", "p79;l02;h1;k135;d60;d", -1021);
        MoreThanSheHas later = due(TWO, "p00;l01;h0;d09;h2;h9;", -2018);
        Check.due("and nothing of it later", Check.told(later, "d01;"), 1);
        Check.due("PEOPLE", later.count(0), 2);
        Check.due("DAY", later.count(1), 1);
    }

    private static void staysThere() {
        Check.sentence("The ROW of a text, and what is taken from a SHELF, stay there");
        String[] texts = {"p00;", "p00;p99;", "p00;q"};
        int[] want = {1, -2004, -1004};
        for (int i = 0; i < texts.length; i++) {
            MoreThanSheHas x = due("", texts[i], want[i]);
            for (int at = 0; at < texts[i].length(); at++) {
                Check.dueElement(x, 7, at, 0, texts[i].charAt(at));
            }
            Check.dueElement(x, 7, texts[i].length(), 2, 0);
            Check.due("told once more", x.parish(7), want[i]);
        }
    }

    private static void refusals() {
        Check.sentence("The text in SHELF d: -1, -11, -12 (no ROW of bytes)");
        Village.refused("parish(-1)", x -> x.parish(-1), -1);
        Village.refused("parish(8)", x -> x.parish(8), -1);
        Village.refused("parish(MIN)", x -> x.parish(Integer.MIN_VALUE), -1);
        Village.refused("parish(MAX)", x -> x.parish(Integer.MAX_VALUE), -1);
        Village.refused("parish(0), nothing", x -> x.parish(0), -11);
        Village.refused("parish(1), a KIND", x -> x.parish(1), -12);
        Village.refused("parish(3), shorts", x -> x.parish(3), -12);
        Village.refused("parish(4), ints", x -> x.parish(4), -12);
        Village.refused("parish(2), no text", x -> x.parish(2), -1000);
        Village.refused("parish(6), 0 bytes", x -> x.parish(6), -1000);
        Check.due("parish(7), the text again", Village.made().parish(7), 6);
    }
}
