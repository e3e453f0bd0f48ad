import java.util.Random;

/** Any calls with any arguments: nothing is thrown but what element() may, and a refusal changes nothing. */
public final class AnyCallTest {
    private static final int RUNS = 300;
    private static final int CALLS = 512;
    private static final int[] EDGES = {Integer.MIN_VALUE, Integer.MIN_VALUE + 1, -32769, -129, -2, -1,
        9, 10, 20, 21, 30, 31, 60, 61, 99, 100, 101, 127, 128, 255, 999, 32768, 65536, Integer.MAX_VALUE - 1, Integer.MAX_VALUE};
    private static final String LETTERS = "plhkd";

    private final Random random;
    private final MoreThanSheHas x = new MoreThanSheHas();

    private AnyCallTest(int seed) {
        random = new Random(seed);
    }

    public static void main(String[] args) {
        for (int seed = 0; seed < RUNS; seed++) {
            AnyCallTest test = new AnyCallTest(seed);
            for (int i = 0; i < CALLS; i++) {
                int call = test.random.nextInt(40);
                String before = Check.state(test.x);
                long answer = test.answer(call);
                if (answer < 0 || answer >= 1000000001L && answer <= 1000000015L) {
                    Check.dueState("seed " + seed + ", call " + call + " with " + answer, test.x, before);
                }
            }
        }
        Check.end("AnyCallTest");
    }

    private long answer(int call) {
        try {
            return call < 20 ? change(call) : ask(call);
        } catch (RuntimeException e) {
            Check.due("call " + call + " throws " + e, 1, 0);
            return 0;
        }
    }

    private int any() {
        return random.nextInt(12) == 0 ? EDGES[random.nextInt(EDGES.length)] : random.nextInt(9);
    }

    private int text() {
        int d = random.nextInt(8);
        int size = random.nextInt(6) * 4;
        x.row(d, 0, size);
        for (int i = 0; i < size; i++) {
            x.put(d, i, '0' + random.nextInt(7));
        }
        int at = 0;
        while (at < size) {
            int letter = random.nextInt(5);
            x.put(d, at, LETTERS.charAt(letter));
            at += letter == 2 ? 3 : letter == 3 ? 5 : 4;
            x.put(d, at - 1, ';');
        }
        return d;
    }

    private long change(int call) {
        switch (call) {
            case 0: case 1: case 2: case 3: return x.parish(text());
            case 4: case 5: return x.comes(any());
            case 6: case 7: case 8: return x.line(any(), any());
            case 9: return x.told(any());
            case 10: return x.days(any());
            case 11: return x.image();
            case 12: return random.nextInt(8) == 0 ? x.restore() : 0;
            case 13: case 14: return x.keep(any(), random.nextInt(3), any(), any());
            case 15: return x.row(any(), random.nextInt(4) - random.nextInt(2), any());
            case 16: return x.put(any(), any(), any());
            case 17: return x.copy(any(), any(), any(), any(), any());
            case 18: return element(any(), any());
            default: return x.parish(any());
        }
    }

    private long element(int d, int i) {
        try {
            x.element(d, i);
        } catch (IllegalArgumentException e) {
            Check.due("element throws IllegalArgumentException without a SHELF", d < 0 || d > 7 ? 1 : 0, 1);
        } catch (IllegalStateException e) {
            Check.due("element throws IllegalStateException with a SHELF", d >= 0 && d <= 7 ? 1 : 0, 1);
        }
        return 0;
    }

    private long ask(int call) {
        switch (call) {
            case 20: return x.one(any(), any());
            case 21: return x.mean(any());
            case 22: return x.known(any(), any());
            case 23: return x.feels();
            case 24: return x.fall(any());
            case 25: return x.far(any(), any());
            case 26: return x.wide(any());
            case 27: return x.stamps(any(), any(), any());
            case 28: return x.then(any());
            case 29: return x.hears(any());
            case 30: return x.asked(any(), any(), any(), any());
            case 31: return x.settles(any(), any());
            case 32: return x.circle(any()) + x.fire(any());
            case 33: return x.could(any());
            case 34: return x.whatIs(any(), any(), any());
            case 35: return x.whoBegan(any());
            case 36: return x.two(any(), any(), any());
            case 37: return x.storms(any(), any(), any(), any());
            case 38: return x.forged(any()) + x.judge(any()) + x.cost(any()) + x.toss(any());
            default: return x.years(any(), any(), any()) + x.count(any());
        }
    }
}
