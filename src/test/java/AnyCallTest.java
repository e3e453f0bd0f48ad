import java.util.Random;

/**
 * Any calls with any arguments: nothing is thrown but what element() may. A twin is spared the refused
 * calls: all that it answers is the same, so a refusal changed nothing.
 */
public final class AnyCallTest {
    private static final int RUNS = 4000;
    private static final int CALLS = 90;
    private static final int MOST_CALLS = 512;
    /** The kinds of calls from this one on change nothing, whatever they answer. */
    private static final int FIRST_ASKING = 19;
    private static final int[] EDGES = {Integer.MIN_VALUE, Integer.MIN_VALUE + 1, -32769, -129, -2, -1,
        9, 10, 20, 21, 30, 31, 60, 61, 99, 100, 101, 127, 128, 255, 999, 32768, 65536, Integer.MAX_VALUE - 1, Integer.MAX_VALUE};
    private static final String LETTERS = "plhkd";

    private final Random random;
    private final MoreThanSheHas x = new MoreThanSheHas();
    private final MoreThanSheHas twin = new MoreThanSheHas();
    private int made;

    private AnyCallTest(int seed) {
        random = new Random(seed);
    }

    public static void main(String[] args) {
        for (int seed = 0; seed < RUNS; seed++) {
            AnyCallTest test = new AnyCallTest(seed);
            for (int i = 0; i < CALLS && test.made < MOST_CALLS - 150; i++) {
                test.call("seed " + seed + ", call " + i);
            }
            Check.dueState("seed " + seed, test.x, Check.state(test.twin));
        }
        Check.end("AnyCallTest");
    }

    private void call(String where) {
        int call = random.nextInt(40);
        int seed = random.nextInt();
        if (call < 4) {
            lay(x, new Random(seed));
            lay(twin, new Random(seed));
        }
        long answer = answer(x, call, new Random(seed));
        if (call >= FIRST_ASKING || !isRefusal(answer)) {
            Check.due(where + ", kind of call " + call, answer(twin, call, new Random(seed)), answer);
        }
    }

    private static boolean isRefusal(long answer) {
        return answer < 0 || answer >= 1000000001L && answer <= 1000000015L;
    }

    private static int any(Random r) {
        return r.nextInt(12) == 0 ? EDGES[r.nextInt(EDGES.length)] : r.nextInt(9);
    }

    /** Lays a text on a shelf; it may have a fault. */
    private void lay(MoreThanSheHas on, Random r) {
        int d = r.nextInt(8);
        int size = r.nextInt(6) * 4;
        on.row(d, 0, size);
        for (int i = 0; i < size; i++) {
            on.put(d, i, '0' + r.nextInt(7));
        }
        int at = 0;
        while (at < size) {
            int letter = r.nextInt(5);
            on.put(d, at, LETTERS.charAt(letter));
            at += letter == 2 ? 3 : letter == 3 ? 5 : 4;
            on.put(d, at - 1, ';');
        }
        made += on == x ? 2 * size : 0;
    }

    private long answer(MoreThanSheHas on, int call, Random r) {
        made += on == x ? 2 : 0;
        try {
            return call < FIRST_ASKING ? change(on, call, r) : ask(on, call, r);
        } catch (RuntimeException e) {
            Check.due("kind of call " + call + " throws " + e, 1, 0);
            return 0;
        }
    }

    private long change(MoreThanSheHas on, int call, Random r) {
        switch (call) {
            case 0: case 1: case 2: case 3: return on.parish(r.nextInt(8));
            case 4: case 5: return on.comes(any(r));
            case 6: case 7: case 8: return on.line(any(r), any(r));
            case 9: return on.told(any(r));
            case 10: return on.days(any(r));
            case 11: return on.image();
            case 12: return r.nextInt(8) == 0 ? on.restore() : 0;
            case 13: case 14: return on.keep(any(r), r.nextInt(3), any(r), any(r));
            case 15: return on.row(any(r), r.nextInt(4) - r.nextInt(2), any(r));
            case 16: return on.put(any(r), any(r), any(r));
            case 17: return on.copy(any(r), any(r), any(r), any(r), any(r));
            default: return on.parish(any(r));
        }
    }

    private static long element(MoreThanSheHas on, int d, int i) {
        try {
            return on.element(d, i) & 0xffffL;
        } catch (IllegalArgumentException e) {
            Check.due("element throws IllegalArgumentException without a SHELF", d < 0 || d > 7 ? 1 : 0, 1);
        } catch (IllegalStateException e) {
            Check.due("element throws IllegalStateException with a SHELF", d >= 0 && d <= 7 ? 1 : 0, 1);
        }
        return -1;
    }

    private static long ask(MoreThanSheHas on, int call, Random r) {
        switch (call) {
            case 19: return element(on, any(r), any(r));
            case 20: return on.one(any(r), any(r));
            case 21: return on.mean(any(r));
            case 22: return on.known(any(r), any(r));
            case 23: return on.feels();
            case 24: return on.fall(any(r));
            case 25: return on.far(any(r), any(r));
            case 26: return on.wide(any(r));
            case 27: return on.stamps(any(r), any(r), any(r));
            case 28: return on.then(any(r));
            case 29: return on.hears(any(r));
            case 30: return on.asked(any(r), any(r), any(r), any(r));
            case 31: return on.settles(any(r), any(r));
            case 32: return r.nextBoolean() ? on.circle(any(r)) : on.fire(any(r) - 1);
            case 33: return on.could(any(r));
            case 34: return on.whatIs(any(r), any(r), any(r));
            case 35: return on.whoBegan(any(r));
            case 36: return on.two(any(r), any(r), any(r));
            case 37: return on.storms(any(r), any(r), any(r), any(r));
            case 38: return r.nextBoolean() ? on.cost(any(r)) : on.toss(any(r));
            default: return r.nextBoolean() ? on.years(any(r), any(r), any(r)) : r.nextBoolean() ? on.forged(any(r)) : on.judge(any(r));
        }
    }
}
