import java.util.Arrays;

/**
 * More than she has: people of kinds, lines between those who know each other, and news that goes
 * on by days. The answers below 0 are the document's refusals.
 */
public final class MoreThanSheHas {
    private static final int PLACES = 9;
    private static final int KINDS = 8;
    private static final int FIGURES = 10;
    private static final int SHELVES = 8;
    private static final int SORTS = 3;
    private static final int ROW_LIMIT = 100;
    private static final int LAST_DAY = 999;
    private static final int DAYS_AT_ONCE = 60;
    private static final int ALL_BUT_SIGN = 0x7fffffff;
    private static final int LEAST_BYTE = -0x80;
    private static final int LEAST_SHORT = -0x8000;
    private static final int LEAST_INT = 0x80000000;

    private static final int NO_SUCH = -1;
    private static final int NO_ROOM = -2;
    private static final int NOT_SO = -3;
    private static final int NONE = -4;
    private static final int NOTHING_HELD = -11;
    private static final int OTHER_KIND = -12;
    private static final int NO_PLACE = -13;
    private static final int SIZE_BELOW_0 = -14;
    private static final int NO_FAILURE = -15;
    private static final int FIRST_FAULT = -1000;
    private static final int SECOND_FAULT = -2000;
    private static final long LONG_NO_SUCH = 1000000000L - NO_SUCH;

    /** Every NUMBER from 1 to 8 divides it, so means and chances stay whole numbers of it. */
    private static final int SHARES = 840;

    private final Parish now = new Parish();
    private final Parish mind = new Parish();
    private final Parish kept = new Parish();
    private boolean imageTaken;
    private final Shelf[] shelves = new Shelf[SHELVES];
    private final int[] sorted = new int[PLACES];
    private final long[] chance = new long[PLACES];
    private final long[] nextChance = new long[PLACES];

    public MoreThanSheHas() {
        for (int d = 0; d < shelves.length; d++) {
            shelves[d] = new Shelf();
        }
    }

    // ---- the parish as told

    public int parish(int d) {
        Shelf text = shelfOf(d);
        int refusal = textRefusal(text);
        if (refusal != 0) {
            return refusal;
        }
        int broken = brokenAt(text);
        if (broken >= 0) {
            return FIRST_FAULT - broken;
        }
        // tried in mind first, so that a text with a fault leaves everything as it was
        mind.become(now);
        int statements = 0;
        for (int at = 0; at < text.size(); at += 2 + digitsBehind(text.at(at))) {
            if (happens(text, at) < 0) {
                return SECOND_FAULT - at;
            }
            statements++;
        }
        now.become(mind);
        return statements;
    }

    public int one(int p, int what) {
        if (!now.has(p)) {
            return NO_SUCH;
        }
        switch (what) {
            case 0: return now.kindOf(p);
            case 1: return now.figureOf(p);
            case 2: return now.lines.number(p);
            case 3: return now.lines.around(p);
            case 4: return now.heard >> p & 1;
            case 5: return now.kindNamed(now.kindOf(p)).tellsAtMost(now.figureOf(p), now.day + 1);
            case 6: return now.cardsOf(p);
            case 7: return now.lines.feelers() >> p & 1;
            default: return NO_SUCH;
        }
    }

    public int comes(int d) {
        Shelf shelf = shelfOf(d);
        int refusal = oneRefusal(shelf);
        return refusal != 0 ? refusal : now.arrive(shelf.kind, shelf.figure);
    }

    public int line(int a, int b) {
        return now.join(a, b);
    }

    public int told(int p) {
        return now.inform(p);
    }

    public int days(int n) {
        return now.goOn(n);
    }

    // ---- who knows more

    public long mean(int part) {
        return fraction(now.lines.numbers(), now.people(), part);
    }

    public long known(int by, int part) {
        switch (by) {
            case 0: return fraction(now.lines.numbersOfEnds(), now.lines.numbers(), part);
            case 1: return fraction(sharesAround(), (long) SHARES * now.lines.sociable(), part);
            default: return LONG_NO_SUCH;
        }
    }

    public int feels() {
        return now.lines.feelers();
    }

    public int fall(int what) {
        return what == 0 || what == 1 ? now.lines.bestTurn(what == 0) : NO_SUCH;
    }

    // ---- ways and news

    public int far(int a, int b) {
        return now.has(a) && now.has(b) ? now.lines.way(a, b) : NO_SUCH;
    }

    public int wide(int what) {
        switch (what) {
            case 0: return now.lines.widest();
            case 1: return now.lines.parts();
            case 2: return now.lines.bridges();
            default: return NO_SUCH;
        }
    }

    public int stamps(int k, int n, int what) {
        if (k < 1 || k > 4 || n < 0 || n > 30 || what < 0 || what > 1) {
            return NO_SUCH;
        }
        int best = 0;
        int most = 0;
        for (int set = 1; set < 1 << now.people(); set++) {
            if (Integer.bitCount(set) == k && (set & now.deaf) == 0) {
                int heard = Integer.bitCount(now.behind(now.heard | set, n, 0));
                if (heard > most) {
                    best = set;
                    most = heard;
                }
            }
        }
        return what == 0 ? best : most;
    }

    public int then(int n) {
        return n < 0 || n > DAYS_AT_ONCE ? NO_SUCH : now.behind(now.heard, n, 0);
    }

    public int hears(int p) {
        if (!now.has(p)) {
            return NO_SUCH;
        }
        int heard = now.heard;
        for (int n = 0; n <= DAYS_AT_ONCE; n++) {
            if ((heard >> p & 1) != 0) {
                return n;
            }
            heard = now.nextHeard(heard, now.day + n + 1, 0);
        }
        return NONE;
    }

    // ---- asked on, pews, by the fire

    public long asked(int from, int to, int n, int part) {
        if (!now.has(from) || !now.has(to) || n < 0 || n > 6) {
            return LONG_NO_SUCH;
        }
        Arrays.fill(chance, 0);
        chance[from] = 1;
        long all = 1;
        for (int i = 0; i < n; i++) {
            askOn();
            all *= SHARES;
        }
        return fraction(chance[to], all, part);
    }

    public long settles(int p, int part) {
        return now.has(p) ? fraction(now.lines.number(p), now.lines.numbers(), part) : LONG_NO_SUCH;
    }

    public int circle(int what) {
        switch (what) {
            case 0: return now.lines.mostAlike(true);
            case 1: return now.lines.mostAlike(false);
            case 2: return now.lines.fewestPews();
            default: return NO_SUCH;
        }
    }

    public int fire(int p) {
        if (p == -1) {
            return now.lines.mostTwos();
        }
        return now.has(p) ? now.lines.mateOf(p) : NO_SUCH;
    }

    // ---- told numbers

    public int could(int d) {
        Shelf row = shelfOf(d);
        int refusal = rowRefusal(row);
        if (refusal != 0) {
            return refusal;
        }
        return sortNumbers(row) && numbersFit(row.size()) ? 1 : 0;
    }

    public int whatIs(int d, int p, int what) {
        if (!now.has(p) || what < 0 || what > 1) {
            return NO_SUCH;
        }
        Shelf row = shelfOf(d);
        int refusal = rowRefusal(row);
        if (refusal != 0) {
            return refusal;
        }
        int fitting = 0;
        for (int v = 0; v < (what == 0 ? KINDS : FIGURES); v++) {
            mind.become(now);
            mind.change(p, what == 0 ? v : now.kindOf(p), what == 0 ? now.figureOf(p) : v);
            if (firstOther(mind, mind.heard, row, 0) == NONE) {
                fitting |= 1 << v;
            }
        }
        return fitting;
    }

    public int whoBegan(int d) {
        Shelf row = shelfOf(d);
        int refusal = rowRefusal(row);
        if (refusal != 0) {
            return refusal;
        }
        int fitting = 0;
        for (int p = 0; p < now.people(); p++) {
            if (!now.isDeaf(p) && firstOther(now, 1 << p, row, 1) == NONE) {
                fitting |= 1 << p;
            }
        }
        return fitting;
    }

    public int two(int a, int b, int n) {
        if (!now.has(a) || !now.has(b) || a == b || n < 1 || n > 30) {
            return NO_SUCH;
        }
        if ((now.heard >> a & now.heard >> b & 1) == 0) {
            return NOT_SO;
        }
        for (int i = 0; i <= 1; i++) {
            for (int j = 0; j <= 1; j++) {
                boolean aStays = gain(a, i, b, j, n) >= gain(a, 1 - i, b, j, n);
                boolean bStays = gain(b, j, a, i, n) >= gain(b, 1 - j, a, i, n);
                if (aStays && bStays) {
                    return 10 * i + j;
                }
            }
        }
        return NONE;
    }

    public long storms(int p, int n, int t, int part) {
        if (!now.has(p) || n < 0 || n > 7 || t < 2 || t > 20) {
            return LONG_NO_SUCH;
        }
        long all = 1;
        for (int i = 0; i < n; i++) {
            all *= t;
        }
        long hearing = 0;
        for (int weather = 0; weather < 1 << n; weather++) {
            if ((heardThrough(weather, n) >> p & 1) != 0) {
                hearing += waysOf(weather, n, t);
            }
        }
        return fraction(hearing, all, part);
    }

    // ---- told books, years by seeds

    public int forged(int d) {
        Shelf row = shelfOf(d);
        int refusal = rowRefusal(row);
        if (refusal != 0) {
            return refusal;
        }
        for (int p = 0; p < row.size(); p++) {
            if (!now.has(p) || row.at(p) != now.lines.number(p)) {
                return p;
            }
        }
        return NONE;
    }

    public int judge(int d) {
        Shelf row = shelfOf(d);
        int refusal = rowRefusal(row);
        return refusal != 0 ? refusal : firstOther(now, now.heard, row, 0);
    }

    public int years(int n, int z, int what) {
        if (n < 1 || n > 20 || what < 0 || what > 1) {
            return NO_SUCH;
        }
        mind.become(now);
        int seed = z;
        int heard = 0;
        int lines = 0;
        for (int year = 0; year < n; year++) {
            seed = mind.lines.draw(seed);
            heard += Integer.bitCount(mind.behind(mind.heard, 9, 0));
            lines += mind.lines.total();
        }
        return what == 0 ? heard : lines;
    }

    // ---- the image, what is told

    public int image() {
        kept.become(now);
        imageTaken = true;
        return now.day;
    }

    public int restore() {
        if (!imageTaken) {
            return NOT_SO;
        }
        now.become(kept);
        return now.day;
    }

    public int count(int what) {
        switch (what) {
            case 0: return now.people();
            case 1: return now.day;
            case 2: return now.lines.total();
            case 3: return now.heard;
            case 4: return now.allCards();
            default: return NO_SUCH;
        }
    }

    // ---- shelves

    public int keep(int d, int what, int k, int figure) {
        Shelf shelf = shelfOf(d);
        if (shelf == null || what < 0 || what > 1) {
            return NO_SUCH;
        }
        if (what == 0) {
            shelf.holdNothing();
            return 0;
        }
        if (!isKind(k) || !isFigure(figure)) {
            return NO_SUCH;
        }
        shelf.holdOne(k, figure);
        return 0;
    }

    public int row(int d, int sort, int n) {
        Shelf shelf = shelfOf(d);
        if (shelf == null || sort < 0 || sort >= SORTS || n > ROW_LIMIT) {
            return NO_SUCH;
        }
        if (n < 0) {
            return SIZE_BELOW_0;
        }
        shelf.holdRow(sort, n);
        return 0;
    }

    public int put(int d, int i, int v) {
        Shelf shelf = shelfOf(d);
        int refusal = rowRefusal(shelf);
        if (refusal != 0) {
            return refusal;
        }
        if (!shelf.hasPlace(i)) {
            return NO_PLACE;
        }
        shelf.set(i, v);
        return 0;
    }

    public long element(int d, int i) throws IllegalArgumentException, IllegalStateException {
        Shelf shelf = shelfOf(d);
        if (shelf == null) {
            throw new IllegalArgumentException("no such shelf");
        }
        if (!shelf.holdsRow() || !shelf.hasPlace(i)) {
            throw new IllegalStateException("no row or no such place");
        }
        return shelf.at(i);
    }

    public int copy(int d, int i, int e, int j, int n) {
        Shelf from = shelfOf(d);
        Shelf to = shelfOf(e);
        if (from == null || to == null) {
            return NO_SUCH;
        }
        if (from.isEmpty() || to.isEmpty()) {
            return NOTHING_HELD;
        }
        if (!from.holdsRow() || !to.holdsRow() || from.sort != to.sort) {
            return OTHER_KIND;
        }
        if (!from.hasPlaces(i, n) || !to.hasPlaces(j, n)) {
            return NO_PLACE;
        }
        System.arraycopy(from.elements, i, to.elements, j, n);
        return n;
    }

    public int cost(int d) {
        Shelf shelf = shelfOf(d);
        int refusal = oneRefusal(shelf);
        return refusal != 0 ? refusal : now.kindNamed(shelf.kind).price(shelf.figure);
    }

    public int toss(int d) {
        Shelf shelf = shelfOf(d);
        int refusal = oneRefusal(shelf);
        if (refusal != 0) {
            return refusal;
        }
        Person kind = now.kindNamed(shelf.kind);
        try {
            kind.fail(shelf.figure);
        } catch (UnsupportedOperationException ofBell) {
            return 200 + kind.price(shelf.figure);
        } catch (IllegalArgumentException ofGossip) {
            return 100 + shelf.figure;
        } catch (IllegalStateException ofPerson) {
            return shelf.figure;
        }
        return NO_FAILURE;
    }

    // ---- what the calls share

    private Shelf shelfOf(int d) {
        return d >= 0 && d < shelves.length ? shelves[d] : null;
    }

    private static int rowRefusal(Shelf shelf) {
        if (shelf == null) {
            return NO_SUCH;
        }
        if (shelf.isEmpty()) {
            return NOTHING_HELD;
        }
        return shelf.holdsRow() ? 0 : OTHER_KIND;
    }

    private static int textRefusal(Shelf shelf) {
        int refusal = rowRefusal(shelf);
        if (refusal != 0) {
            return refusal;
        }
        return shelf.holdsBytes() ? 0 : OTHER_KIND;
    }

    private static int oneRefusal(Shelf shelf) {
        if (shelf == null) {
            return NO_SUCH;
        }
        if (shelf.isEmpty()) {
            return NOTHING_HELD;
        }
        return shelf.holdsRow() ? OTHER_KIND : 0;
    }

    private static boolean isKind(int k) {
        return k >= 0 && k < KINDS;
    }

    private static boolean isFigure(int figure) {
        return figure >= 0 && figure < FIGURES;
    }

    /** A mean of nobody is 0 by 1, so a 0 below the line is no fault. */
    private static long fraction(long above, long below, int part) {
        if (part != 0 && part != 1) {
            return LONG_NO_SUCH;
        }
        long divisor = commonDivisor(above, below);
        if (below == 0 || divisor == 0) {
            return part;
        }
        return part == 0 ? above / divisor : below / divisor;
    }

    private static long commonDivisor(long a, long b) {
        long greater = a;
        long lesser = b;
        // a hundred steps are more than two longs can take
        for (int step = 0; step < 100 && lesser != 0; step++) {
            long rest = greater % lesser;
            greater = lesser;
            lesser = rest;
        }
        return greater;
    }

    // ---- the text of a parish

    /** The place of the first byte that can't stand there; NONE if the whole text is well formed. */
    private static int brokenAt(Shelf text) {
        int at = 0;
        for (int statements = 0; statements <= text.size(); statements++) {
            if (statements > 0 && at == text.size()) {
                return NONE;
            }
            int broken = statementBrokenAt(text, at);
            if (broken >= 0) {
                return broken;
            }
            at += 2 + digitsBehind(text.at(at));
        }
        return at;
    }

    /** Behind the end a row answers 0, which stands nowhere in a text: so what lacks is told at the end. */
    private static int statementBrokenAt(Shelf text, int at) {
        int digits = digitsBehind(text.at(at));
        if (digits == 0) {
            return at;
        }
        for (int i = at + 1; i <= at + digits; i++) {
            if (text.at(i) < '0' || text.at(i) > '9') {
                return i;
            }
        }
        int end = at + digits + 1;
        return text.at(end) == ';' ? NONE : end;
    }

    private static int digitsBehind(int letter) {
        switch (letter) {
            case 'h': return 1;
            case 'p': return 2;
            case 'l': return 2;
            case 'd': return 2;
            case 'k': return 3;
            default: return 0;
        }
    }

    /** Below 0 if the statement is not as it must be. */
    private int happens(Shelf text, int at) {
        int first = text.at(at + 1) - '0';
        int second = text.at(at + 2) - '0';
        switch (text.at(at)) {
            case 'p': return mind.arrive(first, second);
            case 'l': return mind.join(first, second);
            case 'h': return mind.inform(first);
            case 'k': return mind.change(first, second, text.at(at + 3) - '0');
            case 'd': return mind.goOn(10 * first + second);
            default: return NO_SUCH;
        }
    }

    // ---- means and chances

    /** The means of NUMBERS of those that each one KNOWS, all together, times SHARES. */
    private long sharesAround() {
        long sum = 0;
        for (int p = 0; p < now.people(); p++) {
            int number = now.lines.number(p);
            if (number > 0) {
                sum += (long) now.lines.numbersAround(p) * (SHARES / number);
            }
        }
        return sum;
    }

    /** Chances are told in parts, SHARES times as many with each asking. */
    private void askOn() {
        Arrays.fill(nextChance, 0);
        for (int p = 0; p < PLACES; p++) {
            int number = now.lines.number(p);
            for (int q = 0; q < PLACES; q++) {
                if (number > 0 && now.lines.between(p, q)) {
                    nextChance[q] += chance[p] * (SHARES / number);
                }
            }
            if (number == 0) {
                nextChance[p] += chance[p] * SHARES;
            }
        }
        System.arraycopy(nextChance, 0, chance, 0, PLACES);
    }

    /** In weather a bit is 1 for each day with a storm. */
    private int heardThrough(int weather, int n) {
        int heard = now.heard;
        for (int i = 0; i < n; i++) {
            if ((weather >> i & 1) == 0) {
                heard = now.nextHeard(heard, now.day + i + 1, 0);
            }
        }
        return heard;
    }

    private static long waysOf(int weather, int n, int t) {
        long ways = 1;
        for (int i = 0; i < n; i++) {
            ways *= (weather >> i & 1) == 0 ? t - 1 : 1;
        }
        return ways;
    }

    // ---- told numbers

    /** Puts the numbers in sorted, the greatest first; false if one can't be anybody's. */
    private boolean sortNumbers(Shelf row) {
        if (row.size() > PLACES) {
            return false;
        }
        for (int i = 0; i < row.size(); i++) {
            int number = row.at(i);
            if (number < 0 || number >= PLACES) {
                return false;
            }
            int place = i;
            while (place > 0 && sorted[place - 1] < number) {
                sorted[place] = sorted[place - 1];
                place--;
            }
            sorted[place] = number;
        }
        return true;
    }

    /** By Erdos and Gallai: no few may need more lines than they and the others have to give. */
    private boolean numbersFit(int size) {
        int needed = 0;
        for (int few = 1; few <= size; few++) {
            needed += sorted[few - 1];
            int given = few * (few - 1);
            for (int i = few; i < size; i++) {
                given += Math.min(sorted[i], few);
            }
            if (needed > given) {
                return false;
            }
        }
        return needed % 2 == 0;
    }

    /** The first place of the row that is not so in that parish; the row begins behind some days. */
    private static int firstOther(Parish parish, int start, Shelf row, int behind) {
        int heard = parish.behind(start, behind, 0);
        for (int i = 0; i < row.size(); i++) {
            if (!row.isSkipped(i) && row.at(i) != Integer.bitCount(heard)) {
                return i;
            }
            heard = parish.nextHeard(heard, parish.day + behind + i + 1, 0);
        }
        return NONE;
    }

    private int gain(int p, int choice, int other, int otherChoice, int n) {
        int silent = (1 - choice) << p | (1 - otherChoice) << other;
        int heard = now.behind(now.heard, n, silent);
        return Integer.bitCount(heard & now.lines.around(p)) - 2 * choice;
    }

    // ---- kinds: each overrides what it has otherwise than the one it is under

    private static class Person {
        int tellsAtMost(int figure, int day) {
            return 1;
        }

        boolean likes(int ownNumber, int number) {
            return true;
        }

        int cards(int figure, int number) {
            return number;
        }

        int price(int figure) {
            return 1;
        }

        boolean hearsNothing() {
            return false;
        }

        void fail(int figure) {
            if (figure != 0) {
                throw new IllegalStateException("a person's failure");
            }
        }
    }

    private static class Shy extends Person {
        int tellsAtMost(int figure, int day) {
            return day % 2 == 0 ? 1 : 0;
        }

        boolean likes(int ownNumber, int number) {
            return number <= ownNumber;
        }

        int cards(int figure, int number) {
            return super.cards(figure, number) / 2;
        }

        int price(int figure) {
            return 2;
        }

        void fail(int figure) {
            // a shy one has no failure, nor has any under it
        }
    }

    private static class Gossip extends Person {
        int tellsAtMost(int figure, int day) {
            return 3;
        }

        int cards(int figure, int number) {
            return super.cards(figure, number) + figure;
        }

        int price(int figure) {
            return super.price(figure) + figure;
        }

        void fail(int figure) {
            if (figure != 0) {
                throw new IllegalArgumentException("a gossip's failure");
            }
        }
    }

    private static class Hermit extends Shy {
        int tellsAtMost(int figure, int day) {
            return 0;
        }

        int cards(int figure, int number) {
            return 0;
        }

        int price(int figure) {
            return super.price(figure) + 3;
        }
    }

    private static class Vicar extends Gossip {
        int tellsAtMost(int figure, int day) {
            return super.tellsAtMost(figure, day) - 1;
        }

        int cards(int figure, int number) {
            return 2 * super.cards(figure, number);
        }

        int price(int figure) {
            return 2 * super.price(figure);
        }
    }

    private static final class Snob extends Shy {
        int tellsAtMost(int figure, int day) {
            return super.tellsAtMost(figure, day) + 1;
        }

        boolean likes(int ownNumber, int number) {
            return number > ownNumber;
        }

        int cards(int figure, int number) {
            return super.cards(figure, number) + 1;
        }

        int price(int figure) {
            return super.price(figure) / 2;
        }
    }

    private static final class Bell extends Vicar {
        int tellsAtMost(int figure, int day) {
            return super.tellsAtMost(figure, day) + figure;
        }

        int cards(int figure, int number) {
            return super.cards(figure, number) + 11;
        }

        int price(int figure) {
            return 11;
        }

        void fail(int figure) {
            if (figure != 0) {
                throw new UnsupportedOperationException("a bell's failure");
            }
        }
    }

    private static final class Deaf extends Hermit {
        boolean hearsNothing() {
            return true;
        }
    }

    /** Who KNOWS whom. */
    private static final class Lines {
        private int people;
        private final int[] knows = new int[PLACES];
        /** For each set of people the best that was found for it (of nobody 0); made anew by each call that uses it. */
        private final int[] best = new int[1 << PLACES];

        void copyFrom(Lines other) {
            people = other.people;
            System.arraycopy(other.knows, 0, knows, 0, PLACES);
        }

        int around(int p) {
            return p >= 0 && p < knows.length ? knows[p] : 0;
        }

        int number(int p) {
            return Integer.bitCount(around(p));
        }

        boolean between(int a, int b) {
            return (around(a) >> b & 1) != 0;
        }

        void turn(int a, int b) {
            if (a >= 0 && a < knows.length && b >= 0 && b < knows.length) {
                knows[a] ^= 1 << b;
                knows[b] ^= 1 << a;
            }
        }

        int numbers() {
            int sum = 0;
            for (int p = 0; p < people; p++) {
                sum += number(p);
            }
            return sum;
        }

        int total() {
            return numbers() / 2;
        }

        /** One stands at an end of as many lines as its number tells. */
        int numbersOfEnds() {
            int sum = 0;
            for (int p = 0; p < people; p++) {
                sum += number(p) * number(p);
            }
            return sum;
        }

        int numbersAround(int p) {
            int sum = 0;
            for (int q = 0; q < people; q++) {
                if (between(p, q)) {
                    sum += number(q);
                }
            }
            return sum;
        }

        /** How many KNOW somebody. */
        int sociable() {
            int found = 0;
            for (int p = 0; p < people; p++) {
                if (number(p) > 0) {
                    found++;
                }
            }
            return found;
        }

        int feelers() {
            int bits = 0;
            for (int p = 0; p < people; p++) {
                if (number(p) * number(p) < numbersAround(p)) {
                    bits |= 1 << p;
                }
            }
            return bits;
        }

        /** The line to end (there) or to begin (not there) so that fewest feel it. */
        int bestTurn(boolean there) {
            int fewest = Integer.bitCount(feelers());
            int answer = NONE;
            for (int a = 0; a < people; a++) {
                for (int b = a + 1; b < people; b++) {
                    if (between(a, b) == there) {
                        turn(a, b);
                        int feeling = Integer.bitCount(feelers());
                        turn(a, b);
                        if (feeling < fewest) {
                            fewest = feeling;
                            answer = 10 * a + b;
                        }
                    }
                }
            }
            return answer;
        }

        /** These, and all whom one of them KNOWS. */
        int widened(int bits) {
            int all = bits;
            for (int p = 0; p < people; p++) {
                if ((bits >> p & 1) != 0) {
                    all |= around(p);
                }
            }
            return all;
        }

        int way(int a, int b) {
            int reached = 1 << a;
            for (int steps = 0; steps < PLACES; steps++) {
                if ((reached >> b & 1) != 0) {
                    return steps;
                }
                reached = widened(reached);
            }
            return NONE;
        }

        int widest() {
            int most = 0;
            for (int a = 0; a < people; a++) {
                for (int b = a + 1; b < people; b++) {
                    most = Math.max(most, way(a, b));
                }
            }
            return most;
        }

        int parts() {
            int seen = 0;
            int found = 0;
            for (int p = 0; p < people; p++) {
                if ((seen >> p & 1) == 0) {
                    found++;
                    int part = 1 << p;
                    for (int steps = 0; steps < PLACES; steps++) {
                        part = widened(part);
                    }
                    seen |= part;
                }
            }
            return found;
        }

        int bridges() {
            int before = parts();
            int found = 0;
            for (int a = 0; a < people; a++) {
                for (int b = a + 1; b < people; b++) {
                    if (between(a, b)) {
                        turn(a, b);
                        if (parts() > before) {
                            found++;
                        }
                        turn(a, b);
                    }
                }
            }
            return found;
        }

        /** All of these KNOW each other, or no two of them do. */
        boolean alike(int bits, boolean knowing) {
            for (int p = 0; p < people; p++) {
                if ((bits >> p & 1) != 0) {
                    int others = bits & ~(1 << p);
                    if ((others & around(p)) != (knowing ? others : 0)) {
                        return false;
                    }
                }
            }
            return true;
        }

        int mostAlike(boolean knowing) {
            int answer = 0;
            for (int bits = 1; bits < 1 << people; bits++) {
                if (Integer.bitCount(bits) > Integer.bitCount(answer) && alike(bits, knowing)) {
                    answer = bits;
                }
            }
            return answer;
        }

        private int bestOf(int bits) {
            return bits >= 0 && bits < best.length ? best[bits] : 0;
        }

        private void setBest(int bits, int value) {
            if (bits >= 0 && bits < best.length) {
                best[bits] = value;
            }
        }

        /** The sets whose last one is p follow from those of the people ahead of p. */
        int fewestPews() {
            for (int p = 0; p < people; p++) {
                for (int others = 0; others < 1 << p; others++) {
                    setBest(others | 1 << p, pewsWith(p, others));
                }
            }
            return bestOf((1 << people) - 1);
        }

        private int pewsWith(int p, int others) {
            int fewest = PLACES;
            for (int beside = 0; beside <= others; beside++) {
                if ((beside & ~others) == 0 && alike(beside | 1 << p, false)) {
                    fewest = Math.min(fewest, 1 + bestOf(others & ~beside));
                }
            }
            return fewest;
        }

        int mostTwos() {
            for (int p = 0; p < people; p++) {
                for (int others = 0; others < 1 << p; others++) {
                    setBest(others | 1 << p, twosWith(p, others));
                }
            }
            return bestOf((1 << people) - 1);
        }

        private int twosWith(int p, int others) {
            int most = bestOf(others);
            for (int q = 0; q < p; q++) {
                if ((others & around(p) & 1 << q) != 0) {
                    most = Math.max(most, 1 + bestOf(others & ~(1 << q)));
                }
            }
            return most;
        }

        int mateOf(int p) {
            mostTwos();
            int free = (1 << people) - 1;
            for (int q = 0; q < people; q++) {
                if ((free >> q & 1) != 0) {
                    int mate = firstMate(q, free);
                    if (q == p) {
                        return mate;
                    }
                    if (mate == p) {
                        return q;
                    }
                    free &= ~(1 << q);
                    if (mate >= 0) {
                        free &= ~(1 << mate);
                    }
                }
            }
            return NONE;
        }

        /** The least one with whom q, the first of the free, leaves as many twos as there can be. */
        private int firstMate(int q, int free) {
            for (int r = q + 1; r < people; r++) {
                int both = 1 << q | 1 << r;
                if ((free & around(q) & 1 << r) != 0 && 1 + bestOf(free & ~both) == bestOf(free)) {
                    return r;
                }
            }
            return NONE;
        }

        /** Draws all lines anew: the seed behind it. */
        int draw(int seed) {
            int z = seed;
            for (int a = 0; a < people; a++) {
                for (int b = a + 1; b < people; b++) {
                    z = z * 1103515245 + 12345;
                    boolean wanted = (z & ALL_BUT_SIGN) / 65536 % 3 == 0;
                    if (between(a, b) != wanted) {
                        turn(a, b);
                    }
                }
            }
            return z;
        }
    }

    /** PEOPLE, LINES, who has HEARD, and the DAY: all that THE IMAGE holds. */
    private static final class Parish {
        private final Lines lines = new Lines();
        private final Person[] kinds = {
            new Person(), new Shy(), new Gossip(), new Hermit(),
            new Vicar(), new Snob(), new Bell(), new Deaf()
        };
        private final int[] kind = new int[PLACES];
        private final int[] figure = new int[PLACES];
        private int heard;
        private int deaf;
        private int day;

        void become(Parish other) {
            lines.copyFrom(other.lines);
            System.arraycopy(other.kind, 0, kind, 0, PLACES);
            System.arraycopy(other.figure, 0, figure, 0, PLACES);
            heard = other.heard;
            deaf = other.deaf;
            day = other.day;
        }

        int people() {
            return lines.people;
        }

        boolean has(int p) {
            return p >= 0 && p < PLACES && p < lines.people;
        }

        int kindOf(int p) {
            return p >= 0 && p < kind.length ? kind[p] : 0;
        }

        int figureOf(int p) {
            return p >= 0 && p < figure.length ? figure[p] : 0;
        }

        Person kindNamed(int k) {
            return k >= 0 && k < kinds.length ? kinds[k] : kinds[0];
        }

        boolean isDeaf(int p) {
            return (deaf >> p & 1) != 0;
        }

        int cardsOf(int p) {
            return kindNamed(kindOf(p)).cards(figureOf(p), lines.number(p));
        }

        int allCards() {
            int sum = 0;
            for (int p = 0; p < people(); p++) {
                sum += cardsOf(p);
            }
            return sum;
        }

        int arrive(int k, int itsFigure) {
            if (!isKind(k) || !isFigure(itsFigure)) {
                return NO_SUCH;
            }
            if (lines.people >= PLACES) {
                return NO_ROOM;
            }
            int p = lines.people;
            lines.people++;
            change(p, k, itsFigure);
            return p;
        }

        int change(int p, int k, int itsFigure) {
            if (!has(p) || !isKind(k) || !isFigure(itsFigure)) {
                return NO_SUCH;
            }
            kind[p] = k;
            figure[p] = itsFigure;
            deaf &= ~(1 << p);
            if (kindNamed(k).hearsNothing()) {
                deaf |= 1 << p;
                heard &= ~(1 << p);
            }
            return 0;
        }

        int join(int a, int b) {
            if (!has(a) || !has(b) || a == b) {
                return NO_SUCH;
            }
            lines.turn(a, b);
            return lines.between(a, b) ? 1 : 0;
        }

        int inform(int p) {
            if (!has(p)) {
                return NO_SUCH;
            }
            if (isDeaf(p)) {
                return NOT_SO;
            }
            heard ^= 1 << p;
            return heard >> p & 1;
        }

        int goOn(int n) {
            if (n < 1 || n > DAYS_AT_ONCE) {
                return NO_SUCH;
            }
            if (day + n > LAST_DAY) {
                return NOT_SO;
            }
            for (int i = 0; i < n; i++) {
                day++;
                heard = nextHeard(heard, day, 0);
            }
            return Integer.bitCount(heard);
        }

        /** Who has HEARD n days on from now, if just these have HEARD now and the silent tell nobody. */
        int behind(int start, int n, int silent) {
            int all = start;
            int still = 0;
            // what one tells depends on even and odd days alone: behind one of each without news none comes
            for (int i = 1; i <= n && still < 2; i++) {
                int next = nextHeard(all, day + i, silent);
                still = next == all ? still + 1 : 0;
                all = next;
            }
            return all;
        }

        int nextHeard(int ahead, int onDay, int silent) {
            int all = ahead;
            for (int p = 0; p < people(); p++) {
                if ((ahead & ~silent & 1 << p) != 0) {
                    all |= toldBy(p, lines.around(p) & ~all & ~deaf, onDay);
                }
            }
            return all;
        }

        private int toldBy(int p, int waiting, int onDay) {
            Person teller = kindNamed(kindOf(p));
            int left = teller.tellsAtMost(figureOf(p), onDay);
            int reached = 0;
            for (int q = 0; q < people() && left > 0; q++) {
                if ((waiting >> q & 1) != 0 && teller.likes(lines.number(p), lines.number(q))) {
                    reached |= 1 << q;
                    left--;
                }
            }
            return reached;
        }
    }

    /** Holds nothing, a KIND of one, or a ROW; the room for a ROW is made once and used again. */
    private static final class Shelf {
        private static final int NOTHING = 0;
        private static final int ONE = 1;
        private static final int ROW = 2;

        private int holds = NOTHING;
        private int kind;
        private int figure;
        private int sort;
        private int length;
        private final int[] elements = new int[ROW_LIMIT];

        void holdNothing() {
            holds = NOTHING;
        }

        void holdOne(int itsKind, int itsFigure) {
            holds = ONE;
            kind = itsKind;
            figure = itsFigure;
        }

        void holdRow(int itsSort, int size) {
            holds = ROW;
            sort = itsSort;
            length = size;
            Arrays.fill(elements, 0);
        }

        boolean isEmpty() {
            return holds == NOTHING;
        }

        boolean holdsRow() {
            return holds == ROW;
        }

        boolean holdsBytes() {
            return holds == ROW && sort == 0;
        }

        int size() {
            return length;
        }

        boolean hasPlace(int i) {
            return i >= 0 && i < length;
        }

        boolean hasPlaces(int from, int n) {
            return from >= 0 && n >= 0 && n <= length && from <= length - n;
        }

        int at(int i) {
            return hasPlace(i) ? elements[i] : 0;
        }

        void set(int i, int v) {
            if (hasPlace(i)) {
                elements[i] = sort == 0 ? (byte) v : sort == 1 ? (short) v : v;
            }
        }

        boolean isSkipped(int i) {
            return at(i) == (sort == 0 ? LEAST_BYTE : sort == 1 ? LEAST_SHORT : LEAST_INT);
        }
    }
}
