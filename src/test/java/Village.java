import java.util.function.ToLongFunction;

/**
 * A small parish with an image, and something on each shelf but one; made anew for each refused call, as
 * an object is good for 512 calls only.
 */
final class Village {
    private Village() {
    }

    /** On the shelves: nothing, a GOSSIP, 3 bytes, 2 shorts, 3 ints, a SHY one, 0 bytes, 22 bytes. */
    static MoreThanSheHas made() {
        MoreThanSheHas x = Check.parish("p01;p12;l01;h1;");
        x.image();
        Check.due("the village", Check.told(x, "p23;p74;l12;h1;h0;d01;"), 6);
        x.keep(1, 1, 2, 5);
        Check.lay(x, 2, 0, 1, 2, 3);
        Check.lay(x, 3, 1, 4, 5);
        Check.lay(x, 4, 2, 6, 7, 8);
        x.keep(5, 1, 1, 0);
        Check.lay(x, 6, 0);
        return x;
    }

    /** The call answers so, and parish, shelves and image stay as they were. */
    static void refused(String call, ToLongFunction<MoreThanSheHas> made, long want) {
        MoreThanSheHas x = made();
        String before = everything(x);
        Check.due(call, made.applyAsLong(x), want);
        same(call, everything(x), before);
        Check.due("restore() behind " + call, x.restore(), 0);
        MoreThanSheHas other = made();
        other.restore();
        same("the image behind " + call, everything(x), everything(other));
    }

    private static void same(String call, String is, String before) {
        Check.due(call + " leaves " + before + " (is " + is + ")", is.equals(before) ? 1 : 0, 1);
    }

    static String everything(MoreThanSheHas x) {
        StringBuilder all = new StringBuilder(Check.state(x));
        for (int d = 0; d < 8; d++) {
            all.append('|').append(x.cost(d)).append(',').append(x.toss(d)).append(',').append(x.could(d));
            all.append(',').append(x.copy(d, 0, 2, 0, 0)).append(',').append(x.copy(d, 0, 3, 0, 0));
            all.append(elements(x, d));
        }
        return all.toString();
    }

    private static StringBuilder elements(MoreThanSheHas x, int d) {
        StringBuilder all = new StringBuilder();
        try {
            for (int i = 0; i <= 100; i++) {
                all.append(' ').append(x.element(d, i));
            }
        } catch (IllegalStateException behindTheLast) {
            all.append('.');
        }
        return all;
    }
}
