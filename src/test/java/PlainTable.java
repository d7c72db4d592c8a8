import java.math.BigInteger;
import java.util.ArrayList;
import java.util.List;
import java.util.function.Predicate;

/**
 * The document again, in its plainest form: every GIVING is gone through. Where there would be too
 * many of them an answer is UNKNOWN.
 */
final class PlainTable {
    static final long UNKNOWN = Long.MIN_VALUE;
    private static final int MOST_WAYS = 30000;
    private static final long BAD = -2;
    private static final long NONE = -4;
    private static final long BIG = -5;
    private static final long NOTHING = -10;

    /** A find: its kind, its ages with their gaps, and by what it is ODD. */
    static final class Thing {
        int kind;
        int value;
        int odd;
        List<int[]> ages = new ArrayList<>();

        Thing copy() {
            Thing t = new Thing();
            t.kind = kind;
            t.value = value;
            t.odd = odd;
            t.ages.addAll(ages);
            return t;
        }
    }

    /** What keep() keeps. */
    static final class World {
        int years = 30;
        int[] curve = new int[40];
        int[] misses = new int[21];
        List<Thing> things = new ArrayList<>();
        int[][] how = new int[7][7];

        World copy() {
            World w = new World();
            w.years = years;
            w.curve = curve.clone();
            w.misses = misses.clone();
            for (Thing t : things) {
                w.things.add(t.copy());
            }
            for (int i = 0; i < 7; i++) {
                w.how[i] = how[i].clone();
            }
            return w;
        }

        World without(int gone) {
            World w = copy();
            w.things.remove(gone);
            w.how = new int[7][7];
            for (int i = 0; i < things.size(); i++) {
                for (int k = 0; k < things.size(); k++) {
                    if (i != gone && k != gone) {
                        w.how[i > gone ? i - 1 : i][k > gone ? k - 1 : k] = how[i][k];
                    }
                }
            }
            return w;
        }

        long plain(Thing t, int year) {
            if (t.kind == 2) {
                return 1;
            }
            if (t.kind == 3) {
                return year == t.value ? 1 : 0;
            }
            long product = 1;
            for (int[] age : t.ages) {
                int there = year + age[1];
                int off = there < years ? Math.abs(age[0] - curve[there]) : 21;
                product *= off > 20 ? 0 : misses[off];
            }
            return product;
        }

        long mean(Thing t) {
            long sum = 0;
            for (int year = 0; year < years; year++) {
                sum += plain(t, year);
            }
            return sum / years;
        }

        long weight(Thing t, int year) {
            return t.odd == 0 ? plain(t, year) : (10 - t.odd) * plain(t, year) + t.odd * mean(t);
        }

        long[][] weights() {
            long[][] rows = new long[things.size()][years];
            for (int i = 0; i < rows.length; i++) {
                for (int year = 0; year < years; year++) {
                    rows[i][year] = weight(things.get(i), year);
                }
            }
            return rows;
        }
    }

    /** One GIVING and what it COUNTS. */
    static final class Giving {
        int[] years;
        BigInteger counts;
    }

    World now = new World();
    World kept = null;
    List<int[]> tape = new ArrayList<>();
    List<Integer> waiting = new ArrayList<>();
    int[] sorts = {-1, -1, -1, -1};
    int[][] sheets = new int[4][];
    int[] drawn = null;
    long below = 1;
    int host = 0;

    PlainTable() {
        for (int year = 0; year < 40; year++) {
            now.curve[year] = 500 - 5 * year;
        }
        for (int d = 0; d < 9; d++) {
            now.misses[d] = 9 - d;
        }
    }

    private long host(long finding) {
        host++;
        return finding;
    }

    private static boolean within(long v, long least, long most) {
        return least <= v && v <= most;
    }

    private boolean noFind(int i) {
        return !within(i, 0, now.things.size() - 1);
    }

    long years(int n) {
        if (!within(n, 1, 40)) {
            return BAD;
        }
        int was = now.years;
        now.years = n;
        return was;
    }

    long curve(int year, int v) {
        if (!within(year, 0, 39) || !within(v, 0, 2000)) {
            return BAD;
        }
        int was = now.curve[year];
        now.curve[year] = v;
        return was;
    }

    long miss(int d, int v) {
        if (!within(d, 0, 20) || !within(v, 0, 9)) {
            return BAD;
        }
        int was = now.misses[d];
        now.misses[d] = v;
        return was;
    }

    long sheet(int s, int sort, int n) {
        if (!within(s, 0, 3) || !within(sort, 0, 3) || n > 60) {
            return BAD;
        }
        if (n < 0) {
            return host(-13);
        }
        sorts[s] = sort;
        sheets[s] = new int[n];
        return n;
    }

    long write(int s, int i, int v) {
        if (!within(s, 0, 3)) {
            return BAD;
        }
        if (sorts[s] < 0) {
            return host(NOTHING);
        }
        if (!within(i, 0, sheets[s].length - 1)) {
            return host(-11);
        }
        int was = sheets[s][i];
        sheets[s][i] = sorts[s] == 0 ? (byte) v : sorts[s] == 1 ? (short) v : sorts[s] == 2 ? (char) v : v;
        return was;
    }

    long lose(int s) {
        if (!within(s, 0, 3)) {
            return BAD;
        }
        int was = sorts[s] < 0 ? 0 : 1;
        sorts[s] = -1;
        return was;
    }

    long lay(int s, int sort, int i, int year, int n) {
        if (!within(s, 0, 3) || !within(sort, 0, 3) || !within(year, 0, 39) || !within(n, 0, 40 - year)) {
            return BAD;
        }
        if (sorts[s] < 0) {
            return host(NOTHING);
        }
        if (sorts[s] != sort) {
            return host(-12);
        }
        if (n > 0 && (i < 0 || (long) i + n > sheets[s].length)) {
            return host(-11);
        }
        int outside = 0;
        for (int step = 0; step < n; step++) {
            int v = sheets[s][i + step];
            outside += within(v, 0, 2000) ? 0 : 1;
            now.curve[year + step] = v < 0 ? 0 : v > 2000 ? 2000 : v;
        }
        return outside;
    }

    long find(int kind, int v) {
        int most = kind == 3 ? 39 : 2000;
        if (!within(kind, 0, 3) || kind != 2 && !within(v, 0, most) || now.things.size() == 7) {
            return BAD;
        }
        Thing t = new Thing();
        t.kind = kind;
        t.value = kind == 2 ? 0 : v;
        if (kind < 2) {
            t.ages.add(new int[] {v, 0});
        }
        now.things.add(t);
        drawn = null;
        return now.things.size() - 1;
    }

    long ring(int i, int age, int gap) {
        if (noFind(i) || !within(age, 0, 2000) || !within(gap, 0, 39)) {
            return BAD;
        }
        Thing t = now.things.get(i);
        if (t.kind != 1) {
            return host(-12);
        }
        if (t.ages.size() == 5) {
            return BAD;
        }
        t.ages.add(new int[] {age, gap});
        return t.ages.size();
    }

    long odd(int i, int o) {
        if (noFind(i) || !within(o, 0, 9)) {
            return BAD;
        }
        int was = now.things.get(i).odd;
        now.things.get(i).odd = o;
        return was;
    }

    long pair(int i, int k, int how) {
        if (noFind(i) || noFind(k) || i == k || !within(how, 0, 2)) {
            return BAD;
        }
        int was = now.how[i][k];
        now.how[i][k] = how;
        return was;
    }

    long of(int i, int what) {
        if (noFind(i) || !within(what, 0, 5)) {
            return BAD;
        }
        Thing t = now.things.get(i);
        long above = 0;
        for (int year = 0; year < now.years; year++) {
            above += now.weight(t, year) > 0 ? 1 : 0;
        }
        long[] answers = {t.kind, t.value, t.odd, t.ages.size(), now.mean(t), above};
        return answers[what];
    }

    long weight(int i, int year) {
        return noFind(i) || !within(year, 0, now.years - 1) ? BAD : now.weight(now.things.get(i), year);
    }

    long drop() {
        if (now.things.isEmpty()) {
            return host(NOTHING);
        }
        now = now.without(now.things.size() - 1);
        drawn = null;
        return now.things.size();
    }

    long feed(long w, int n) {
        if (!within(n, 1, 8) || tape.size() + n > 200) {
            return BAD;
        }
        for (int step = 0; step < n; step++) {
            tape.add(new int[] {(int) (w >> 8 * step & 255)});
        }
        return tape.size();
    }

    /** Reads by a state for what may come next: 0 a GROUP, 1 a NAME, 2 , or ), 3 a sign, 4 = or a GROUP. */
    long text() {
        int[][] told = new int[7][7];
        List<Integer> former = new ArrayList<>();
        List<Integer> group = new ArrayList<>();
        int state = 0;
        int sign = 0;
        int at = 0;
        boolean stopped = false;
        for (; at < tape.size() && !stopped; at++) {
            int c = tape.get(at)[0];
            boolean isName = c >= 'a' && c < 'a' + now.things.size();
            if (state == 4 && c == '=') {
                sign = 2;
                state = 0;
            } else if ((state == 0 || state == 4) && c == '(') {
                state = 1;
            } else if ((state == 0 || state == 4) && isName) {
                group.add(c - 'a');
                state = 3;
                tellGroups(told, former, group, sign);
            } else if (state == 1 && isName) {
                group.add(c - 'a');
                state = 2;
            } else if (state == 2 && c == ',') {
                state = 1;
            } else if (state == 2 && c == ')') {
                state = 3;
                tellGroups(told, former, group, sign);
            } else if (state == 3 && (c == '<' || c == ';')) {
                sign = c == '<' ? 1 : 0;
                state = c == '<' ? 4 : 0;
                former = group;
                group = new ArrayList<>();
            } else {
                stopped = true;
                at--;
            }
        }
        tape.clear();
        if (stopped || state != 3) {
            return -3 - at;
        }
        now.how = told;
        return pairs();
    }

    private static void tellGroups(int[][] told, List<Integer> former, List<Integer> group, int sign) {
        for (int i : former) {
            for (int k : group) {
                if (i != k && sign != 0) {
                    told[i][k] = sign;
                }
            }
        }
    }

    private long pairs() {
        long sum = 0;
        for (int[] row : now.how) {
            for (int h : row) {
                sum += h == 0 ? 0 : 1;
            }
        }
        return sum;
    }

    // ---- what is counted

    private static boolean isBig(World w) {
        BigInteger product = BigInteger.ONE;
        for (long[] row : w.weights()) {
            long sum = 0;
            for (long v : row) {
                sum += v;
            }
            product = product.multiply(BigInteger.valueOf(sum));
        }
        return product.compareTo(BigInteger.valueOf(4000000000000000L)) > 0;
    }

    /** All GIVINGS that COUNT more than 0, in their order; null if they are too many. */
    private static List<Giving> givings(World w, long[][] weights) {
        double ways = 1;
        for (long[] row : weights) {
            double some = 0;
            for (long v : row) {
                some += v > 0 ? 1 : 0;
            }
            ways *= some;
        }
        if (ways > MOST_WAYS) {
            return null;
        }
        List<Giving> all = new ArrayList<>();
        goThrough(w, weights, new int[weights.length], 0, BigInteger.ONE, all);
        return all;
    }

    private static void goThrough(World w, long[][] weights, int[] years, int i, BigInteger counts, List<Giving> all) {
        if (i == weights.length) {
            Giving g = new Giving();
            g.years = years.clone();
            g.counts = counts;
            all.add(g);
            return;
        }
        for (int year = 0; year < w.years; year++) {
            years[i] = year;
            if (weights[i][year] > 0 && fits(w, years, i)) {
                goThrough(w, weights, years, i + 1, counts.multiply(BigInteger.valueOf(weights[i][year])), all);
            }
        }
    }

    private static boolean fits(World w, int[] years, int i) {
        for (int k = 0; k < i; k++) {
            if (!holds(w.how[i][k], years[i], years[k]) || !holds(w.how[k][i], years[k], years[i])) {
                return false;
            }
        }
        return true;
    }

    private static boolean holds(int how, int first, int second) {
        return how == 0 || how == 1 && first < second || how == 2 && first <= second;
    }

    private static BigInteger sum(List<Giving> all, Predicate<int[]> which) {
        BigInteger sum = BigInteger.ZERO;
        for (Giving g : all) {
            if (which.test(g.years)) {
                sum = sum.add(g.counts);
            }
        }
        return sum;
    }

    private static BigInteger sum(List<Giving> all) {
        return sum(all, years -> true);
    }

    private long fraction(BigInteger above, BigInteger under) {
        BigInteger common = above.gcd(under);
        below = under.divide(common).longValueExact();
        return above.divide(common).longValueExact();
    }

    private long unknownFraction() {
        below = UNKNOWN;
        return UNKNOWN;
    }

    long total() {
        if (isBig(now)) {
            return BIG;
        }
        List<Giving> all = givings(now, now.weights());
        return all == null ? UNKNOWN : sum(all).longValueExact();
    }

    private long shareOf(boolean bad, Predicate<int[]> which) {
        if (bad) {
            return BAD;
        }
        if (isBig(now)) {
            return BIG;
        }
        List<Giving> all = givings(now, now.weights());
        if (all == null) {
            return unknownFraction();
        }
        return all.isEmpty() ? NONE : fraction(sum(all, which), sum(all));
    }

    private boolean noYear(int year) {
        return !within(year, 0, now.years - 1);
    }

    long share(int i, int year) {
        return shareOf(noFind(i) || noYear(year), years -> years[i] == year);
    }

    long until(int i, int year) {
        return shareOf(noFind(i) || noYear(year), years -> years[i] <= year);
    }

    long order(int i, int k) {
        return shareOf(noFind(i) || noFind(k), years -> years[i] < years[k]);
    }

    long apart(int i, int k, int d) {
        return shareOf(noFind(i) || noFind(k) || !within(d, -39, 39), years -> years[k] - years[i] == d);
    }

    long mean(int i) {
        long finding = shareOf(noFind(i), years -> true);
        if (finding < 0) {
            return finding;
        }
        List<Giving> all = givings(now, now.weights());
        BigInteger sum = BigInteger.ZERO;
        for (Giving g : all) {
            sum = sum.add(g.counts.multiply(BigInteger.valueOf(g.years[i])));
        }
        return fraction(sum, sum(all));
    }

    /** What GIVINGS COUNT for each year of a find; null where there is a finding. */
    private BigInteger[] byYear(int i) {
        List<Giving> all = givings(now, now.weights());
        BigInteger[] rows = new BigInteger[now.years];
        for (int year = 0; year < now.years; year++) {
            int wanted = year;
            rows[year] = sum(all, years -> years[i] == wanted);
        }
        return rows;
    }

    private long findingOfYears(boolean bad) {
        long was = below;
        long finding = shareOf(bad, years -> true);
        below = was;
        return finding;
    }

    long best(int i) {
        long finding = findingOfYears(noFind(i));
        if (finding < 0) {
            return finding;
        }
        BigInteger[] rows = byYear(i);
        int best = 0;
        for (int year = 0; year < now.years; year++) {
            best = rows[year].compareTo(rows[best]) > 0 ? year : best;
        }
        return best;
    }

    long span(int i, int p) {
        long finding = findingOfYears(noFind(i) || !within(p, 1, 1000));
        if (finding < 0) {
            return finding;
        }
        BigInteger[] rows = byYear(i);
        BigInteger want = sum(givings(now, now.weights())).multiply(BigInteger.valueOf(p));
        int first = 0;
        int last = now.years - 1;
        for (int from = 0; from < now.years; from++) {
            BigInteger sum = BigInteger.ZERO;
            for (int to = from; to < now.years; to++) {
                sum = sum.add(rows[to]);
                boolean enough = sum.multiply(BigInteger.valueOf(1000)).compareTo(want) >= 0;
                if (enough && to - from < last - first) {
                    first = from;
                    last = to;
                }
            }
        }
        return 100 * first + last;
    }

    long strange(int i) {
        long finding = shareOf(noFind(i), years -> true);
        if (finding < 0) {
            return finding;
        }
        long[][] weights = now.weights();
        BigInteger whole = sum(givings(now, weights));
        Thing t = now.things.get(i);
        for (int year = 0; year < now.years; year++) {
            weights[i][year] = t.odd * now.mean(t);
        }
        List<Giving> all = givings(now, weights);
        return all == null ? unknownFraction() : fraction(sum(all), whole);
    }

    long without(int i) {
        if (noFind(i)) {
            return BAD;
        }
        World other = now.without(i);
        return byTotalOf(other);
    }

    private long byTotalOf(World other) {
        if (isBig(now) || isBig(other)) {
            return BIG;
        }
        List<Giving> above = givings(now, now.weights());
        List<Giving> under = givings(other, other.weights());
        if (above == null || under == null) {
            return unknownFraction();
        }
        return under.isEmpty() ? NONE : fraction(sum(above), sum(under));
    }

    // ---- givings

    long draw(long number) {
        if (number < 0) {
            return BAD;
        }
        if (isBig(now)) {
            return BIG;
        }
        List<Giving> all = givings(now, now.weights());
        if (all == null) {
            return UNKNOWN;
        }
        BigInteger left = BigInteger.valueOf(number);
        for (Giving g : all) {
            if (left.compareTo(g.counts) < 0) {
                drawn = g.years;
                return g.counts.longValueExact();
            }
            left = left.subtract(g.counts);
        }
        return NONE;
    }

    long drawn(int i) {
        if (drawn == null) {
            return host(NOTHING);
        }
        return noFind(i) ? BAD : drawn[i];
    }

    long tell(int v) {
        if (waiting.size() == 20) {
            return BAD;
        }
        waiting.add(v);
        return waiting.size();
    }

    long number() {
        List<Integer> told = waiting;
        waiting = new ArrayList<>();
        if (told.size() != now.things.size()) {
            return BAD;
        }
        for (int year : told) {
            if (noYear(year)) {
                return BAD;
            }
        }
        if (isBig(now)) {
            return BIG;
        }
        List<Giving> all = givings(now, now.weights());
        if (all == null) {
            return UNKNOWN;
        }
        BigInteger sum = BigInteger.ZERO;
        for (Giving g : all) {
            boolean same = true;
            for (int i = 0; i < told.size(); i++) {
                same &= told.get(i) == g.years[i];
            }
            if (same) {
                return sum.longValueExact();
            }
            sum = sum.add(g.counts);
        }
        return NONE;
    }

    // ---- all

    long keep() {
        kept = now.copy();
        return now.things.size();
    }

    long back() {
        if (kept == null) {
            return host(NOTHING);
        }
        now = kept.copy();
        drawn = null;
        return now.things.size();
    }

    long bears() {
        return kept == null ? host(NOTHING) : byTotalOf(kept);
    }

    long count(int what) {
        long[] answers = {now.things.size(), now.years, pairs(), waiting.size(), host};
        return within(what, 0, 4) ? answers[what] : BAD;
    }
}
