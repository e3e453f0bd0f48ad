/** What the tests share: answers compared with those that are due, and texts laid on shelves. */
final class Check {
    static final long LONG_MINUS_1 = 1000000001L;
    private static int wrong;
    private static int calls;
    private static int sentences;
    private static String sentence = "";
    private static int callsAhead;

    private Check() {
    }

    static void due(String call, long got, long want) {
        calls++;
        if (got != want) {
            wrong++;
            System.out.println(sentence + call + " answered " + got + ", due is " + want);
        }
    }

    /** The answers that follow, up to the next sentence, are a test of this one of the document. */
    static void sentence(String words) {
        untried();
        sentences++;
        sentence = "'" + words + "': ";
        callsAhead = calls;
    }

    private static void untried() {
        if (sentences > 0 && calls == callsAhead) {
            wrong++;
            System.out.println(sentence + "nothing tries it");
        }
    }

    /** Ends the run: with 1 if an answer was not as due. */
    static void end(String test) {
        untried();
        String told = sentences > 0 ? sentences + " sentences, " : "";
        System.out.println(test + ": " + told + calls + " answers, " + wrong + " not as due");
        System.exit(wrong == 0 && calls > 0 ? 0 : 1);
    }

    static void lay(MoreThanSheHas x, int d, int sort, int... elements) {
        due("row(" + d + ", " + sort + ", " + elements.length + ")", x.row(d, sort, elements.length), 0);
        for (int i = 0; i < elements.length; i++) {
            due("put(" + d + ", " + i + ", " + elements[i] + ")", x.put(d, i, elements[i]), 0);
        }
    }

    /** What parish() answers to a text, laid on shelf 7. */
    static int told(MoreThanSheHas x, String text) {
        lay(x, 7, 0, text.chars().toArray());
        return x.parish(7);
    }

    static MoreThanSheHas parish(String text) {
        MoreThanSheHas x = new MoreThanSheHas();
        int statements = text.length() - text.replace(";", "").length();
        due("parish: " + text, told(x, text), statements);
        return x;
    }

    /** A parish on the DAY told. */
    static MoreThanSheHas parishOn(int day, String text) {
        MoreThanSheHas x = parish(text);
        for (int left = day - x.count(1); left > 0; left -= 60) {
            x.days(Math.min(60, left));
        }
        due("DAY", x.count(1), day);
        return x;
    }

    static void dueFraction(String call, long above, long below, long wantAbove, long wantBelow) {
        due(call + " above", above, wantAbove);
        due(call + " below", below, wantBelow);
    }

    /** Both parts of element(): 1 IllegalArgumentException, 2 IllegalStateException, 0 an answer. */
    static void dueElement(MoreThanSheHas x, int d, int i, int thrown, long want) {
        String call = "element(" + d + ", " + i + ")";
        int how = 0;
        long got = 0;
        try {
            got = x.element(d, i);
        } catch (IllegalArgumentException e) {
            how = 1;
        } catch (IllegalStateException e) {
            how = 2;
        }
        due(call + " throws", how, thrown);
        if (how == 0) {
            due(call, got, want);
        }
    }

    /** All that there is but shelves and the image, in one text. */
    static String state(MoreThanSheHas x) {
        StringBuilder all = new StringBuilder();
        for (int what = 0; what <= 4; what++) {
            all.append(x.count(what)).append(' ');
        }
        for (int p = 0; p < x.count(0); p++) {
            for (int what = 0; what <= 6; what++) {
                all.append(x.one(p, what)).append(',');
            }
            all.append(' ');
        }
        return all.toString();
    }

    static void dueState(String call, MoreThanSheHas x, String before) {
        due(call + " leaves " + before + " (is " + state(x) + ")", state(x).equals(before) ? 1 : 0, 1);
    }
}
