/** Promises 17 to 20: asked on, pews, by the fire. */
public final class AskedTest {
    public static void main(String[] args) {
        asked();
        askedFar();
        settles();
        circle();
        fire();
        Check.end("AskedTest");
    }

    private static void dueAsked(MoreThanSheHas x, int from, int to, int n, long above, long below) {
        String call = "asked(" + from + ", " + to + ", " + n + ")";
        Check.dueFraction(call, x.asked(from, to, n, 0), x.asked(from, to, n, 1), above, below);
    }

    private static void asked() {
        // 0 - 1 - 2 - 3 with 1 - 3 too, and 4 alone
        MoreThanSheHas x = Check.parish("p00;p00;p00;p00;p00;l01;l12;l23;l13;");
        dueAsked(x, 0, 0, 0, 1, 1);
        dueAsked(x, 0, 1, 0, 0, 1);
        dueAsked(x, 0, 1, 1, 1, 1);
        dueAsked(x, 0, 0, 1, 0, 1);
        dueAsked(x, 0, 2, 2, 1, 3);
        dueAsked(x, 1, 1, 2, 2, 3);
        dueAsked(x, 2, 3, 3, 7, 24);
        dueAsked(x, 4, 4, 6, 1, 1);
        dueAsked(x, 4, 0, 6, 0, 1);
        dueAsked(x, 0, 4, 6, 0, 1);
        Check.due("asked(5, 0, 0, 0)", x.asked(5, 0, 0, 0), Check.LONG_MINUS_1);
        Check.due("asked(0, 5, 0, 0)", x.asked(0, 5, 0, 0), Check.LONG_MINUS_1);
        Check.due("asked(-1, 0, 0, 0)", x.asked(-1, 0, 0, 0), Check.LONG_MINUS_1);
        Check.due("asked(0, -1, 0, 0)", x.asked(0, -1, 0, 0), Check.LONG_MINUS_1);
        Check.due("asked(0, 0, -1, 0)", x.asked(0, 0, -1, 0), Check.LONG_MINUS_1);
        Check.due("asked(0, 0, 7, 0)", x.asked(0, 0, 7, 0), Check.LONG_MINUS_1);
        Check.due("asked(0, 0, 6, 2)", x.asked(0, 0, 6, 2), Check.LONG_MINUS_1);
        Check.due("asked(0, 0, 6, -1)", x.asked(0, 0, 6, -1), Check.LONG_MINUS_1);
        Check.due("asked of nobody", new MoreThanSheHas().asked(0, 0, 0, 0), Check.LONG_MINUS_1);
    }

    private static void askedFar() {
        MoreThanSheHas all = new MoreThanSheHas();
        all.keep(0, 1, 0, 0);
        for (int p = 0; p < 9; p++) {
            all.comes(0);
            for (int q = 0; q < p; q++) {
                all.line(p, q);
            }
        }
        // back at the start: 0, then (1 - before) / 8 each time
        dueAsked(all, 0, 0, 2, 1, 8);
        dueAsked(all, 0, 0, 6, 3641, 32768);
        dueAsked(all, 0, 8, 6, 29127, 262144);
    }

    private static void settles() {
        MoreThanSheHas x = Check.parish("p00;p00;p00;p00;p00;");
        Check.dueFraction("settles without LINES", x.settles(0, 0), x.settles(0, 1), 0, 1);
        Check.due("of a KITE", Check.told(x, "l01;l12;l23;l13;"), 4);
        long[][] want = {{1, 8}, {3, 8}, {1, 4}, {1, 4}, {0, 1}};
        for (int p = 0; p < 5; p++) {
            Check.dueFraction("settles(" + p + ")", x.settles(p, 0), x.settles(p, 1), want[p][0], want[p][1]);
        }
        Check.due("settles(5, 0)", x.settles(5, 0), Check.LONG_MINUS_1);
        Check.due("settles(-1, 0)", x.settles(-1, 0), Check.LONG_MINUS_1);
        Check.due("settles(0, 2)", x.settles(0, 2), Check.LONG_MINUS_1);
        Check.due("settles(0, -1)", x.settles(0, -1), Check.LONG_MINUS_1);
    }

    private static void dueCircle(MoreThanSheHas x, int circle, int strangers, int pews) {
        Check.due("circle(0)", x.circle(0), circle);
        Check.due("circle(1)", x.circle(1), strangers);
        Check.due("circle(2)", x.circle(2), pews);
    }

    private static void circle() {
        dueCircle(new MoreThanSheHas(), 0, 0, 0);
        dueCircle(Check.parish("p00;"), 1, 1, 1);
        dueCircle(Check.parish("p00;p00;p00;"), 1, 7, 1);
        dueCircle(Check.parish("p00;p00;p00;l12;"), 6, 3, 2);
        MoreThanSheHas kite = Check.parish("p00;p00;p00;p00;p00;l01;l12;l23;l13;");
        dueCircle(kite, 14, 21, 3);
        // a ring of five wants three pews though no three KNOW each other
        dueCircle(Check.parish("p00;p00;p00;p00;p00;l01;l12;l23;l34;l40;"), 3, 5, 3);
        Check.due("circle(3)", kite.circle(3), -1);
        Check.due("circle(-1)", kite.circle(-1), -1);
        MoreThanSheHas all = new MoreThanSheHas();
        all.keep(0, 1, 0, 0);
        for (int p = 0; p < 9; p++) {
            all.comes(0);
            for (int q = 0; q < p; q++) {
                all.line(p, q);
            }
        }
        dueCircle(all, 511, 1, 9);
        all.line(0, 8);
        dueCircle(all, 255, 257, 8);
    }

    private static void dueFire(MoreThanSheHas x, int twos, int... mates) {
        Check.due("fire(-1)", x.fire(-1), twos);
        for (int p = 0; p < mates.length; p++) {
            Check.due("fire(" + p + ")", x.fire(p), mates[p]);
        }
        Check.due("fire(-2)", x.fire(-2), -1);
        Check.due("fire(" + mates.length + ")", x.fire(mates.length), -1);
        Check.due("fire(MIN)", x.fire(Integer.MIN_VALUE), -1);
    }

    private static void fire() {
        MoreThanSheHas fresh = Check.parish("p00;p00;p00;p00;l01;l02;l13;");
        Check.due("fire(3) ahead of fire(-1)", fresh.fire(3), 1);
        Check.due("circle(2)", fresh.circle(2), 2);
        Check.due("fire(0) behind circle(2)", fresh.fire(0), 2);
        fresh.line(1, 3);
        Check.due("fire(0) behind a LINE ended", fresh.fire(0), 1);
        Check.due("circle(2) behind fire(0)", fresh.circle(2), 2);
        dueFire(new MoreThanSheHas(), 0);
        dueFire(Check.parish("p00;p00;"), 0, -4, -4);
        dueFire(Check.parish("p00;p00;p00;p00;l01;l02;l03;"), 1, 1, 0, -4, -4);
        dueFire(Check.parish("p00;p00;p00;p00;l01;l12;l23;"), 2, 1, 0, 3, 2);
        // 0 1 alone would leave 2 and 3 alone
        dueFire(Check.parish("p00;p00;p00;p00;l01;l02;l13;"), 2, 2, 3, 0, 1);
        // 0 alone is last: 1 2 alone would be as many
        dueFire(Check.parish("p00;p00;p00;l12;l02;"), 1, 2, -4, 0);
        dueFire(Check.parish("p00;p00;p00;p00;p00;l04;l14;l24;l23;"), 2, 4, -4, 3, 2, 0);
        dueFire(Check.parish("p00;p00;p00;p00;p00;l01;l12;l23;l34;l40;"), 2, 1, 0, 3, 2, -4);
    }
}
