import java.util.Random;

/** Many parishes by fixed seeds: every answer is compared with that of the plain second telling. */
public final class RandomTest {
    private static final int PARISHES = 600;
    private static final int[] LEAST = {Byte.MIN_VALUE, Short.MIN_VALUE, Integer.MIN_VALUE};

    private final Random random;
    private MoreThanSheHas x = new MoreThanSheHas();
    private Plain plain = new Plain();

    private RandomTest(int seed) {
        random = new Random(seed);
    }

    public static void main(String[] args) {
        for (int seed = 0; seed < PARISHES; seed++) {
            RandomTest test = new RandomTest(seed);
            test.build();
            test.askPeople();
            test.askAll();
            test.askRows();
            test.anew();
            test.goOn();
            test.askPeople();
            test.askRows();
        }
        Check.end("RandomTest");
    }

    private void build() {
        int size = random.nextInt(10);
        int ofKind = random.nextInt(12);
        for (int p = 0; p < size; p++) {
            int kind = ofKind < 8 && random.nextBoolean() ? ofKind : random.nextInt(8);
            int figure = random.nextInt(10);
            x.keep(0, 1, kind, figure);
            Check.due("comes", x.comes(0), p);
            Check.due("cost", x.cost(0), Plain.cost(kind, figure));
            Check.due("toss", x.toss(0), Plain.toss(kind, figure));
            plain.add(kind, figure);
        }
        int odds = 1 + random.nextInt(8);
        for (int a = 0; a < size; a++) {
            for (int b = 0; b < a; b++) {
                if (random.nextInt(9) < odds) {
                    Check.due("line", x.line(a, b), 1);
                    plain.turn(a, b);
                }
            }
            if (random.nextInt(4) == 0) {
                boolean deaf = plain.people.get(a).kind == 7;
                Check.due("told", x.told(a), deaf ? -3 : 1);
                plain.people.get(a).heard = !deaf;
            }
        }
    }

    /** An object is good for 512 calls: another one goes on with the same parish, still on DAY 0. */
    private void anew() {
        x = new MoreThanSheHas();
        for (int p = 0; p < plain.size(); p++) {
            Plain.One one = plain.people.get(p);
            x.keep(0, 1, one.kind, one.figure);
            Check.due("comes", x.comes(0), p);
            for (int q : one.knows) {
                if (q < p) {
                    Check.due("line", x.line(p, q), 1);
                }
            }
            if (one.heard) {
                Check.due("told", x.told(p), 1);
            }
        }
    }

    private void goOn() {
        int n = 1 + random.nextInt(5);
        plain = plain.after(n);
        Check.due("days(" + n + ")", x.days(n), plain.many());
        if (plain.size() > 0) {
            int p = random.nextInt(plain.size());
            int kind = random.nextInt(8);
            int figure = random.nextInt(10);
            Check.due("k", Check.told(x, "k" + p + kind + figure + ";"), 1);
            plain.change(p, kind, figure);
        }
    }

    private void askPeople() {
        Check.due("count(0)", x.count(0), plain.size());
        Check.due("count(1)", x.count(1), plain.day);
        Check.due("count(2)", x.count(2), plain.lines());
        Check.due("count(3)", x.count(3), plain.heard());
        int[] with = plain.fire();
        Check.due("fire(-1)", x.fire(-1), Plain.twos(with));
        int cards = 0;
        for (int p = 0; p < plain.size(); p++) {
            Plain.One one = plain.people.get(p);
            int knows = 0;
            for (int q : one.knows) {
                knows |= 1 << q;
            }
            int[] want = {one.kind, one.figure, plain.number(p), knows, one.heard ? 1 : 0,
                plain.tells(p), plain.cards(p), plain.feels() >> p & 1};
            for (int what = 0; what < want.length; what++) {
                Check.due("one(" + p + ", " + what + ")", x.one(p, what), want[what]);
            }
            Check.due("fire(" + p + ")", x.fire(p), with[p] == 99 ? -4 : with[p]);
            Check.due("hears(" + p + ")", x.hears(p), plain.hears(p));
            cards += plain.cards(p);
            for (int q = 0; q < plain.size(); q++) {
                Check.due("far(" + p + ", " + q + ")", x.far(p, q), plain.far(p, q));
            }
        }
        Check.due("count(4)", x.count(4), cards);
    }

    private void askAll() {
        for (int part = 0; part <= 1; part++) {
            Check.due("mean", x.mean(part), Plain.part(2L * plain.lines(), plain.size(), part));
            Check.due("known(0)", x.known(0, part), plain.known(0, part));
            Check.due("known(1)", x.known(1, part), plain.known(1, part));
            Check.due("circle", x.circle(part), plain.circle(part == 0));
            Check.due("fall", x.fall(part), plain.fall(part));
        }
        Check.due("circle(2)", x.circle(2), plain.pews());
        Check.due("feels", x.feels(), plain.feels());
        for (int what = 0; what <= 2; what++) {
            Check.due("wide(" + what + ")", x.wide(what), plain.wide(what));
        }
        int n = random.nextInt(10);
        Check.due("then(" + n + ")", x.then(n), plain.after(n).heard());
        int k = 1 + random.nextInt(4);
        int seed = random.nextInt();
        int years = 1 + random.nextInt(20);
        for (int what = 0; what <= 1; what++) {
            Check.due("stamps(" + k + ", " + n + ", " + what + ")", x.stamps(k, n, what), plain.stamps(k, n, what));
            Check.due("years(" + years + ", " + seed + ", " + what + ")", x.years(years, seed, what),
                plain.years(years, seed, what));
        }
        if (plain.size() > 0) {
            askSome();
        }
    }

    private void askSome() {
        int p = random.nextInt(plain.size());
        int q = random.nextInt(plain.size());
        int asks = random.nextInt(7);
        int days = random.nextInt(8);
        int t = 2 + random.nextInt(19);
        for (int part = 0; part <= 1; part++) {
            Check.due("asked(" + p + ", " + q + ", " + asks + ")", x.asked(p, q, asks, part), plain.asked(p, q, asks, part));
            Check.due("storms(" + p + ", " + days + ", " + t + ")", x.storms(p, days, t, part), plain.storms(p, days, t, part));
            long numbers = 2L * plain.lines();
            Check.due("settles(" + p + ")", x.settles(p, part), Plain.part(plain.number(p), numbers, part));
        }
        for (int a = 0; a < plain.size(); a++) {
            for (int b = 0; b < plain.size(); b++) {
                int n = 1 + random.nextInt(30);
                Check.due("two(" + a + ", " + b + ", " + n + ")", x.two(a, b, n), a == b ? -1 : plain.two(a, b, n));
            }
        }
    }

    /** Rows that are mostly so: as some KIND of one would have it, with gaps, and now and then one off. */
    private void askRows() {
        int sort = random.nextInt(3);
        int[] row = new int[random.nextInt(8)];
        int p = plain.size() > 0 ? random.nextInt(plain.size()) : 0;
        Plain other = plain.copy();
        if (plain.size() > 0) {
            other.change(p, random.nextInt(8), random.nextInt(10));
        }
        for (int i = 0; i < row.length; i++) {
            row[i] = random.nextInt(3) == 0 ? LEAST[sort] : other.after(i).many();
            row[i] += random.nextInt(20) == 0 ? 1 : 0;
        }
        Check.lay(x, 1, sort, row);
        Check.due("judge", x.judge(1), plain.judge(row, LEAST[sort]));
        for (int what = 0; what <= 1 && plain.size() > 0; what++) {
            Check.due("whatIs(1, " + p + ", " + what + ")", x.whatIs(1, p, what), plain.whatIs(row, LEAST[sort], p, what));
        }
        askWhoBegan(sort, row.length);
        askNumbers(sort);
    }

    /** A row of the news as it goes on from one alone, with gaps. */
    private void askWhoBegan(int sort, int length) {
        Plain parish = plain.copy();
        int p = random.nextInt(10);
        for (int q = 0; q < parish.size(); q++) {
            parish.people.get(q).heard = p == q && parish.people.get(q).kind != 7;
        }
        int[] row = new int[length];
        for (int i = 0; i < row.length; i++) {
            parish = parish.after(1);
            row[i] = random.nextInt(4) == 0 ? LEAST[sort] : parish.many();
        }
        Check.lay(x, 1, sort, row);
        Check.due("whoBegan", x.whoBegan(1), plain.whoBegan(row, LEAST[sort]));
    }

    private void askNumbers(int sort) {
        int[] numbers = new int[Math.min(plain.size() + random.nextInt(2), 10)];
        int first = -4;
        for (int i = numbers.length - 1; i >= 0; i--) {
            numbers[i] = i < plain.size() ? plain.number(i) : 0;
            numbers[i] += random.nextInt(12) == 0 ? 1 : 0;
            if (i >= plain.size() || numbers[i] != plain.number(i)) {
                first = i;
            }
        }
        Check.lay(x, 2, sort, numbers);
        Check.due("forged", x.forged(2), first);
        Check.due("could", x.could(2), Plain.could(numbers));
        int[] any = new int[random.nextInt(10)];
        for (int i = 0; i < any.length; i++) {
            any[i] = random.nextInt(any.length);
        }
        Check.lay(x, 2, sort, any);
        Check.due("could", x.could(2), Plain.could(any));
    }
}
