import java.math.BigInteger;
import java.util.ArrayList;
import java.util.Arrays;
import java.util.List;
import java.util.Set;
import java.util.TreeSet;

/** The parish told a second time, in the slowest and plainest way, to compare answers with. */
final class Plain {
    static final class One {
        int kind;
        int figure;
        boolean heard;
        Set<Integer> knows = new TreeSet<>();
    }

    final List<One> people = new ArrayList<>();
    int day;

    Plain copy() {
        Plain other = new Plain();
        other.day = day;
        for (One one : people) {
            One o = new One();
            o.kind = one.kind;
            o.figure = one.figure;
            o.heard = one.heard;
            o.knows = new TreeSet<>(one.knows);
            other.people.add(o);
        }
        return other;
    }

    int size() {
        return people.size();
    }

    int number(int p) {
        return people.get(p).knows.size();
    }

    boolean knows(int a, int b) {
        return people.get(a).knows.contains(b);
    }

    void add(int kind, int figure) {
        One one = new One();
        one.kind = kind;
        one.figure = figure;
        people.add(one);
    }

    void turn(int a, int b) {
        if (knows(a, b)) {
            people.get(a).knows.remove(b);
            people.get(b).knows.remove(a);
        } else {
            people.get(a).knows.add(b);
            people.get(b).knows.add(a);
        }
    }

    void change(int p, int kind, int figure) {
        people.get(p).kind = kind;
        people.get(p).figure = figure;
        if (kind == 7) {
            people.get(p).heard = false;
        }
    }

    static int tells(int kind, int figure, int day) {
        int even = 1 - day % 2;
        return new int[] {1, even, 3, 0, 2, even + 1, figure + 2, 0}[kind];
    }

    int tells(int p) {
        return tells(people.get(p).kind, people.get(p).figure, day + 1);
    }

    boolean likes(int p, int q) {
        switch (people.get(p).kind) {
            case 1: case 3: case 7: return number(q) <= number(p);
            case 5: return number(q) > number(p);
            default: return true;
        }
    }

    int cards(int p) {
        int n = number(p);
        int f = people.get(p).figure;
        return new int[] {n, n / 2, n + f, 0, 2 * n + 2 * f, n / 2 + 1, 2 * n + 2 * f + 11, 0}[people.get(p).kind];
    }

    static int cost(int kind, int figure) {
        return new int[] {1, 2, 1 + figure, 5, 2 + 2 * figure, 1, 11, 5}[kind];
    }

    static int toss(int kind, int figure) {
        return figure == 0 ? -15 : new int[] {figure, -15, 100 + figure, -15, 100 + figure, -15, 211, -15}[kind];
    }

    void dayOn(Set<Integer> silent) {
        day++;
        List<Integer> tellers = new ArrayList<>();
        for (int p = 0; p < size(); p++) {
            if (people.get(p).heard && !silent.contains(p)) {
                tellers.add(p);
            }
        }
        for (int p : tellers) {
            int left = tells(people.get(p).kind, people.get(p).figure, day);
            for (int q : people.get(p).knows) {
                if (left > 0 && !people.get(q).heard && people.get(q).kind != 7 && likes(p, q)) {
                    people.get(q).heard = true;
                    left--;
                }
            }
        }
    }

    Plain after(int n) {
        Plain then = copy();
        for (int i = 0; i < n; i++) {
            then.dayOn(Set.of());
        }
        return then;
    }

    int heard() {
        int bits = 0;
        for (int p = 0; p < size(); p++) {
            bits |= people.get(p).heard ? 1 << p : 0;
        }
        return bits;
    }

    int many() {
        return Integer.bitCount(heard());
    }

    int lines() {
        int sum = 0;
        for (int p = 0; p < size(); p++) {
            sum += number(p);
        }
        return sum / 2;
    }

    static long part(BigInteger above, BigInteger below, int part) {
        if (below.signum() == 0) {
            return part;
        }
        BigInteger divisor = above.gcd(below);
        return (part == 0 ? above : below).divide(divisor).longValueExact();
    }

    static long part(long above, long below, int part) {
        return part(BigInteger.valueOf(above), BigInteger.valueOf(below), part);
    }

    BigInteger[] plus(BigInteger[] a, BigInteger[] b) {
        return new BigInteger[] {a[0].multiply(b[1]).add(b[0].multiply(a[1])), a[1].multiply(b[1])};
    }

    static BigInteger[] fraction(long above, long below) {
        return new BigInteger[] {BigInteger.valueOf(above), BigInteger.valueOf(below)};
    }

    long known(int by, int part) {
        BigInteger[] sum = fraction(0, 1);
        int means = 0;
        for (int p = 0; p < size(); p++) {
            for (int q : people.get(p).knows) {
                if (by == 0) {
                    sum = plus(sum, fraction(number(q), 1));
                } else {
                    sum = plus(sum, fraction(number(q), number(p)));
                }
            }
            means += by == 0 ? number(p) : number(p) > 0 ? 1 : 0;
        }
        return part(sum[0], sum[1].multiply(BigInteger.valueOf(means)), part);
    }

    int feels() {
        int bits = 0;
        for (int p = 0; p < size(); p++) {
            double sum = 0;
            for (int q : people.get(p).knows) {
                sum += number(q);
            }
            if (number(p) > 0 && number(p) + 0.001 < sum / number(p)) {
                bits |= 1 << p;
            }
        }
        return bits;
    }

    int fall(int what) {
        int best = -4;
        int fewest = Integer.bitCount(feels());
        for (int a = 0; a < size(); a++) {
            for (int b = a + 1; b < size(); b++) {
                Plain other = copy();
                other.turn(a, b);
                int feeling = Integer.bitCount(other.feels());
                if (knows(a, b) == (what == 0) && feeling < fewest) {
                    fewest = feeling;
                    best = 10 * a + b;
                }
            }
        }
        return best;
    }

    int far(int a, int b) {
        int[][] ways = ways();
        return ways[a][b] > 99 ? -4 : ways[a][b];
    }

    private int[][] ways() {
        int[][] ways = new int[size()][size()];
        for (int a = 0; a < size(); a++) {
            for (int b = 0; b < size(); b++) {
                ways[a][b] = a == b ? 0 : knows(a, b) ? 1 : 100;
            }
        }
        for (int m = 0; m < size(); m++) {
            for (int a = 0; a < size(); a++) {
                for (int b = 0; b < size(); b++) {
                    ways[a][b] = Math.min(ways[a][b], ways[a][m] + ways[m][b]);
                }
            }
        }
        return ways;
    }

    int wide(int what) {
        int widest = 0;
        Set<String> parts = new TreeSet<>();
        int bridges = 0;
        for (int a = 0; a < size(); a++) {
            StringBuilder part = new StringBuilder();
            for (int b = 0; b < size(); b++) {
                widest = Math.max(widest, far(a, b));
                part.append(far(a, b) >= 0);
                if (what == 2 && a < b && knows(a, b)) {
                    Plain other = copy();
                    other.turn(a, b);
                    bridges += other.far(a, b) < 0 ? 1 : 0;
                }
            }
            parts.add(part.toString());
        }
        return what == 0 ? widest : what == 1 ? parts.size() : bridges;
    }

    int stamps(int k, int n, int what) {
        int best = 0;
        int most = 0;
        for (int set = 0; set < 1 << size(); set++) {
            Plain other = copy();
            boolean fits = Integer.bitCount(set) == k;
            for (int p = 0; p < size(); p++) {
                if ((set >> p & 1) == 1) {
                    fits &= people.get(p).kind != 7;
                    other.people.get(p).heard = true;
                }
            }
            if (fits && other.after(n).many() > most) {
                most = other.after(n).many();
                best = set;
            }
        }
        return what == 0 ? best : most;
    }

    int hears(int p) {
        Plain then = copy();
        for (int n = 0; n <= 60; n++) {
            if (then.people.get(p).heard) {
                return n;
            }
            then.dayOn(Set.of());
        }
        return -4;
    }

    private BigInteger[] chance(int from, int to, int n) {
        if (n == 0) {
            return fraction(from == to ? 1 : 0, 1);
        }
        if (number(from) == 0) {
            return chance(from, to, n - 1);
        }
        BigInteger[] sum = fraction(0, 1);
        for (int q : people.get(from).knows) {
            sum = plus(sum, chance(q, to, n - 1));
        }
        BigInteger below = sum[1].multiply(BigInteger.valueOf(number(from)));
        BigInteger divisor = sum[0].gcd(below);
        return new BigInteger[] {sum[0].divide(divisor), below.divide(divisor)};
    }

    long asked(int from, int to, int n, int part) {
        BigInteger[] chance = chance(from, to, n);
        return part(chance[0], chance[1], part);
    }

    int circle(boolean knowing) {
        int best = 0;
        for (int set = (1 << size()) - 1; set >= 0; set--) {
            boolean fits = true;
            for (int a = 0; a < size(); a++) {
                for (int b = 0; b < a; b++) {
                    fits &= (set >> a & set >> b & 1) == 0 || knows(a, b) == knowing;
                }
            }
            if (fits && Integer.bitCount(set) >= Integer.bitCount(best)) {
                best = set;
            }
        }
        return best;
    }

    int pews() {
        int pews = 0;
        while (!seated(new int[size()], 0, pews)) {
            pews++;
        }
        return pews;
    }

    private boolean seated(int[] pew, int p, int pews) {
        if (p == size()) {
            return true;
        }
        for (pew[p] = 0; pew[p] < pews; pew[p]++) {
            boolean free = true;
            for (int q = 0; q < p; q++) {
                free &= pew[q] != pew[p] || !knows(p, q);
            }
            if (free && seated(pew, p + 1, pews)) {
                return true;
            }
        }
        return false;
    }

    /** By people with whom one sits (99 alone): of all ways with the most twos the first. */
    int[] fire() {
        int[] with = new int[size()];
        Arrays.fill(with, -1);
        return fire(with, 0);
    }

    private int[] fire(int[] with, int p) {
        if (p == size()) {
            return with.clone();
        }
        if (with[p] >= 0) {
            return fire(with, p + 1);
        }
        int[] best = null;
        for (int q : people.get(p).knows) {
            if (with[q] < 0) {
                with[p] = q;
                with[q] = p;
                best = better(best, fire(with, p + 1));
                with[q] = -1;
            }
        }
        with[p] = 99;
        best = better(best, fire(with, p + 1));
        with[p] = -1;
        return best;
    }

    static int twos(int[] with) {
        return (int) Arrays.stream(with).filter(q -> q < 99).count() / 2;
    }

    private static int[] better(int[] a, int[] b) {
        if (a == null || twos(b) > twos(a)) {
            return b;
        }
        return twos(a) == twos(b) && Arrays.compare(b, a) < 0 ? b : a;
    }

    /** By taking the greatest away again and again. */
    static int could(int[] numbers) {
        int[] left = numbers.clone();
        if (left.length > 9) {
            return 0;
        }
        for (int n : left) {
            if (n < 0 || n > 8) {
                return 0;
            }
        }
        while (left.length > 0) {
            Arrays.sort(left);
            int greatest = left[left.length - 1];
            left = Arrays.copyOf(left, left.length - 1);
            if (greatest > left.length) {
                return 0;
            }
            for (int i = 0; i < greatest; i++) {
                if (--left[left.length - 1 - i] < 0) {
                    return 0;
                }
            }
        }
        return 1;
    }

    int judge(int[] row, int least) {
        for (int i = 0; i < row.length; i++) {
            if (row[i] != least && row[i] != after(i).many()) {
                return i;
            }
        }
        return -4;
    }

    int whatIs(int[] row, int least, int p, int what) {
        int bits = 0;
        for (int v = 0; v < (what == 0 ? 8 : 10); v++) {
            Plain other = copy();
            other.change(p, what == 0 ? v : people.get(p).kind, what == 0 ? people.get(p).figure : v);
            bits |= other.judge(row, least) < 0 ? 1 << v : 0;
        }
        return bits;
    }

    int whoBegan(int[] row, int least) {
        int bits = 0;
        for (int p = 0; p < size(); p++) {
            Plain other = copy();
            for (int q = 0; q < size(); q++) {
                other.people.get(q).heard = p == q;
            }
            if (people.get(p).kind != 7 && other.after(1).judge(row, least) < 0) {
                bits |= 1 << p;
            }
        }
        return bits;
    }

    private int[] gains(int a, int b, int ofA, int ofB, int n) {
        Set<Integer> silent = new TreeSet<>();
        if (ofA == 0) {
            silent.add(a);
        }
        if (ofB == 0) {
            silent.add(b);
        }
        Plain then = copy();
        for (int i = 0; i < n; i++) {
            then.dayOn(silent);
        }
        int[] gains = {-2 * ofA, -2 * ofB};
        for (int q = 0; q < size(); q++) {
            gains[0] += then.people.get(q).heard && knows(a, q) ? 1 : 0;
            gains[1] += then.people.get(q).heard && knows(b, q) ? 1 : 0;
        }
        return gains;
    }

    int two(int a, int b, int n) {
        if (!people.get(a).heard || !people.get(b).heard) {
            return -3;
        }
        for (int pair : new int[] {0, 1, 10, 11}) {
            int i = pair / 10;
            int j = pair % 10;
            int[] now = gains(a, b, i, j, n);
            if (now[0] >= gains(a, b, 1 - i, j, n)[0] && now[1] >= gains(a, b, i, 1 - j, n)[1]) {
                return pair;
            }
        }
        return -4;
    }

    private BigInteger[] storm(int p, int n, int t) {
        if (n == 0) {
            return fraction(people.get(p).heard ? 1 : 0, 1);
        }
        Plain quiet = copy();
        quiet.day++;
        BigInteger[] stormy = quiet.storm(p, n - 1, t);
        BigInteger[] fine = after(1).storm(p, n - 1, t);
        stormy[1] = stormy[1].multiply(BigInteger.valueOf(t));
        fine[0] = fine[0].multiply(BigInteger.valueOf(t - 1));
        fine[1] = fine[1].multiply(BigInteger.valueOf(t));
        return plus(stormy, fine);
    }

    long storms(int p, int n, int t, int part) {
        BigInteger[] chance = storm(p, n, t);
        return part(chance[0], chance[1], part);
    }

    int years(int n, int z, int what) {
        long seed = z;
        int sum = 0;
        for (int year = 0; year < n; year++) {
            Plain other = copy();
            for (int a = 0; a < size(); a++) {
                for (int b = a + 1; b < size(); b++) {
                    seed = (int) (seed * 1103515245L + 12345L);
                    long drawn = seed < 0 ? seed + 2147483648L : seed;
                    if (drawn / 65536 % 3 == 0 != other.knows(a, b)) {
                        other.turn(a, b);
                    }
                }
            }
            sum += what == 0 ? other.after(9).many() : other.lines();
        }
        return sum;
    }
}
