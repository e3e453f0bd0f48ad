/** Promises 12 to 16: ways and news. */
public final class NewsTest {
    public static void main(String[] args) {
        far();
        wide();
        stamps();
        stampsRefused();
        then();
        hears();
        Check.end("NewsTest");
    }

    private static void far() {
        MoreThanSheHas x = Check.parish("p00;p00;p00;p00;p00;p00;l01;l12;l23;l34;");
        Check.due("far(0, 0)", x.far(0, 0), 0);
        Check.due("far(5, 5)", x.far(5, 5), 0);
        Check.due("far(0, 1)", x.far(0, 1), 1);
        Check.due("far(0, 4)", x.far(0, 4), 4);
        Check.due("far(4, 0)", x.far(4, 0), 4);
        Check.due("far(0, 5)", x.far(0, 5), -4);
        Check.due("far(5, 0)", x.far(5, 0), -4);
        x.line(1, 4);
        Check.due("far(0, 4), a nearer way", x.far(0, 4), 2);
        Check.due("far(0, 6)", x.far(0, 6), -1);
        Check.due("far(6, 0)", x.far(6, 0), -1);
        Check.due("far(-1, 0)", x.far(-1, 0), -1);
        Check.due("far(0, -1)", x.far(0, -1), -1);
        Check.due("far(6, 6)", x.far(6, 6), -1);
        MoreThanSheHas path = Check.parish("p00;p00;p00;p00;p00;p00;p00;p00;p00;l01;l12;l23;l34;l45;l56;l67;l78;");
        Check.due("far(0, 8)", path.far(0, 8), 8);
        Check.due("wide(0) of nine in a row", path.wide(0), 8);
    }

    private static void wide() {
        MoreThanSheHas x = new MoreThanSheHas();
        for (int what = 0; what <= 2; what++) {
            Check.due("wide(" + what + ") of nobody", x.wide(what), 0);
        }
        x = Check.parish("p00;p00;p00;");
        int[] alone = {0, 3, 0};
        for (int what = 0; what <= 2; what++) {
            Check.due("wide(" + what + ") of three alone", x.wide(what), alone[what]);
        }
        // a ring 0 1 2 3, hung on by 4, and 5 6 apart, and 7
        x = Check.parish("p00;p00;p00;p00;p00;p00;p00;p00;l01;l12;l23;l30;l24;l56;");
        Check.due("WIDE", x.wide(0), 3);
        Check.due("PARTS", x.wide(1), 3);
        Check.due("BRIDGES", x.wide(2), 2);
        Check.due("all LINES stand", x.count(2), 6);
        Check.due("wide(3)", x.wide(3), -1);
        Check.due("wide(-1)", x.wide(-1), -1);
    }

    private static void stamps() {
        // a path of PERSONS: 0 1 2 3 4
        MoreThanSheHas x = Check.parish("p00;p00;p00;p00;p00;l01;l12;l23;l34;");
        dueStamps(x, 1, 0, 1, 1);
        dueStamps(x, 1, 1, 1, 2);
        dueStamps(x, 1, 2, 4, 4);
        dueStamps(x, 1, 3, 4, 5);
        dueStamps(x, 1, 30, 1, 5);
        dueStamps(x, 2, 0, 3, 2);
        dueStamps(x, 2, 1, 5, 4);
        dueStamps(x, 3, 1, 11, 5);
        dueStamps(x, 4, 0, 15, 4);
        Check.due("nobody has HEARD by it", x.count(3), 0);
        Check.due("DAY stays", x.count(1), 0);
        x.told(4);
        dueStamps(x, 1, 0, 1, 2);
        dueStamps(x, 4, 0, 15, 5);
        dueStamps(x, 1, 1, 1, 4);
        // DEAF ones are none to tell, and nobody is told twice
        MoreThanSheHas deaf = Check.parish("p70;p70;p00;p00;l23;h3;");
        dueStamps(deaf, 1, 0, 4, 2);
        dueStamps(deaf, 2, 0, 12, 2);
        dueStamps(deaf, 3, 0, 0, 0);
        dueStamps(new MoreThanSheHas(), 1, 0, 0, 0);
        // on the second DAY a SHY one tells
        dueStamps(Check.parish("p00;p10;p30;p30;l12;d01;"), 1, 1, 2, 2);
        dueStamps(Check.parish("p00;p10;p30;p30;l12;"), 1, 1, 1, 1);
    }

    private static void dueStamps(MoreThanSheHas x, int k, int n, int who, int many) {
        Check.due("stamps(" + k + ", " + n + ", 0)", x.stamps(k, n, 0), who);
        Check.due("stamps(" + k + ", " + n + ", 1)", x.stamps(k, n, 1), many);
    }

    private static void stampsRefused() {
        MoreThanSheHas x = Check.parish("p00;p00;p00;p00;p00;");
        Check.due("stamps(0, 0, 0)", x.stamps(0, 0, 0), -1);
        Check.due("stamps(5, 0, 0)", x.stamps(5, 0, 0), -1);
        Check.due("stamps(1, -1, 0)", x.stamps(1, -1, 0), -1);
        Check.due("stamps(1, 31, 0)", x.stamps(1, 31, 0), -1);
        Check.due("stamps(1, 0, 2)", x.stamps(1, 0, 2), -1);
        Check.due("stamps(1, 0, -1)", x.stamps(1, 0, -1), -1);
        Check.due("stamps(4, 30, 1)", x.stamps(4, 30, 1), 4);
        Check.due("stamps(5, 0, 1) of nobody", new MoreThanSheHas().stamps(5, 0, 1), -1);
    }

    private static void then() {
        MoreThanSheHas x = Check.parish("p00;p10;p30;l01;l12;h0;");
        int[] heard = {1, 3, 7};
        for (int n = 0; n <= 2; n++) {
            Check.due("then(" + n + ")", x.then(n), heard[n]);
        }
        Check.due("then(60)", x.then(60), 7);
        Check.due("DAY stays", x.count(1), 0);
        Check.due("HEARD stays", x.count(3), 1);
        Check.due("then(61)", x.then(61), -1);
        Check.due("then(-1)", x.then(-1), -1);
        for (int i = 0; i < 16; i++) {
            x.days(60);
        }
        x.days(39);
        Check.due("count(1)", x.count(1), 999);
        x.told(0);
        x.told(1);
        x.told(2);
        x.told(1);
        Check.due("then(1) on DAY 1000", x.then(1), 3);
        Check.due("then(2) on DAY 1001", x.then(2), 3);
        Check.due("then(3) on DAY 1002", x.then(3), 7);
    }

    private static void hears() {
        MoreThanSheHas x = Check.parish("p00;p10;p30;p70;p00;l01;l12;l03;h0;");
        int[] want = {0, 1, 2, -4, -4};
        for (int p = 0; p < want.length; p++) {
            Check.due("hears(" + p + ")", x.hears(p), want[p]);
        }
        Check.due("HEARD stays", x.count(3), 1);
        Check.due("DAY stays", x.count(1), 0);
        Check.due("hears(5)", x.hears(5), -1);
        Check.due("hears(-1)", x.hears(-1), -1);
        MoreThanSheHas late = Check.parish("p10;p10;p10;p10;p10;p10;p10;p10;p10;l01;l12;l23;l34;l45;l56;l67;l78;l80;h0;");
        Check.due("hears(8), the last of a ring of SHY ones", late.hears(8), 4);
        Check.due("hears(5)", late.hears(5), 10);
        late.days(1);
        Check.due("hears(5) a DAY on", late.hears(5), 9);
    }
}
