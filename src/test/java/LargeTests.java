import java.math.BigInteger;
import java.util.Arrays;
import java.util.Random;

/**
 * Tables with up to 7 finds in 40 years, too large to go through every giving: THE TOTAL is held
 * against another way of counting, and the other answers against one another. Each sort of question
 * is asked of an object of its own, made by the same calls, so that none is asked more than 512.
 */
public final class LargeTests {
    private static final int TABLES = 150;
    private final Due due = new Due();
    private Random random;
    private DatingTable x;
    private int finds;
    private int years;
    private final int[][] how = new int[7][7];
    private final long[][] weights = new long[7][40];
    private long total;

    public static void main(String[] args) {
        LargeTests tests = new LargeTests();
        int counted = 0;
        for (int seed = 0; counted < TABLES && seed < 100 * TABLES; seed++) {
            tests.make(seed);
            tests.totalIsAsCountedElsewhere("table " + seed);
            if (tests.total > 0) {
                counted++;
                tests.make(seed);
                tests.sharesAgree("table " + seed);
                tests.make(seed);
                tests.apartAgrees("table " + seed);
                tests.make(seed);
                tests.drawAgrees("table " + seed);
            }
        }
        tests.due.is("how many tables were looked at", counted, TABLES);
        tests.due.end();
    }

    private void make(int seed) {
        random = new Random(seed);
        x = new DatingTable();
        finds = 3 + random.nextInt(5);
        years = 10 + random.nextInt(31);
        x.years(years);
        for (int d = 0; d <= 20; d++) {
            x.miss(d, random.nextInt(3));
        }
        for (int year = 0; year < 40; year++) {
            x.curve(year, 480 - 4 * year + random.nextInt(20));
        }
        for (int i = 0; i < finds; i++) {
            int kind = random.nextInt(4);
            if (kind == 3) {
                x.find(random.nextInt(3), 350 + random.nextInt(130));
            } else {
                x.find(kind, 350 + random.nextInt(130));
            }
            x.odd(i, random.nextInt(3) == 0 ? random.nextInt(3) : 0);
        }
        for (int i = 0; i < 7; i++) {
            Arrays.fill(how[i], 0);
        }
        int[] rank = random.ints(0, finds).distinct().limit(finds).toArray();
        int pairs = random.nextInt(2 * finds);
        for (int p = 0; p < pairs; p++) {
            int i = random.nextInt(finds);
            int k = random.nextInt(finds);
            boolean isBackward = rank[i] > rank[k] && random.nextInt(4) != 0;
            if (i != k && !isBackward) {
                how[i][k] = 1 + random.nextInt(2);
                x.pair(i, k, how[i][k]);
            }
        }
    }

    /** For each set of finds placed by a year, every set that the next year may add. */
    private void totalIsAsCountedElsewhere(String at) {
        BigInteger product = BigInteger.ONE;
        for (int i = 0; i < finds; i++) {
            long sum = 0;
            for (int year = 0; year < years; year++) {
                weights[i][year] = x.weight(i, year);
                sum += weights[i][year];
            }
            product = product.multiply(BigInteger.valueOf(sum));
        }
        boolean isBig = product.compareTo(BigInteger.valueOf(4000000000000000L)) > 0;
        total = x.total();
        due.is(at + ": total()", total, isBig ? -5 : countElsewhere().longValueExact());
    }

    private BigInteger countElsewhere() {
        int sets = 1 << finds;
        BigInteger[] placed = new BigInteger[sets];
        Arrays.fill(placed, BigInteger.ZERO);
        placed[0] = BigInteger.ONE;
        for (int year = 0; year < years; year++) {
            BigInteger[] next = new BigInteger[sets];
            Arrays.fill(next, BigInteger.ZERO);
            BigInteger[] products = productsAt(year);
            for (int before = 0; before < sets; before++) {
                int left = sets - 1 & ~before;
                for (int added = left; placed[before].signum() > 0; added = added - 1 & left) {
                    if (products[added].signum() > 0 && mayCome(before, added)) {
                        next[before | added] = next[before | added].add(placed[before].multiply(products[added]));
                    }
                    if (added == 0) {
                        break;
                    }
                }
            }
            placed = next;
        }
        return placed[sets - 1];
    }

    private BigInteger[] productsAt(int year) {
        BigInteger[] products = new BigInteger[1 << finds];
        for (int set = 0; set < products.length; set++) {
            products[set] = BigInteger.ONE;
            for (int i = 0; i < finds; i++) {
                if ((set >> i & 1) != 0) {
                    products[set] = products[set].multiply(BigInteger.valueOf(weights[i][year]));
                }
            }
        }
        return products;
    }

    private boolean mayCome(int before, int added) {
        for (int k = 0; k < finds; k++) {
            for (int i = 0; i < finds && (added >> k & 1) != 0; i++) {
                boolean isEarlier = (before >> i & 1) != 0;
                boolean isSame = (added >> i & 1) != 0;
                if (how[i][k] == 1 && !isEarlier || how[i][k] == 2 && !isEarlier && !isSame) {
                    return false;
                }
            }
        }
        return true;
    }

    /** A fraction that was answered, as its part of THE TOTAL. */
    private long part(String call, long above) {
        long under = x.below();
        due.holds(call + " is a fraction", above >= 0 && under > 0 && total % under == 0);
        due.is(call + " is in lowest terms", BigInteger.valueOf(above).gcd(BigInteger.valueOf(under)).longValue(), 1);
        return above * (total / under);
    }

    private void sharesAgree(String at) {
        int i = random.nextInt(finds);
        long[] shares = new long[years];
        long sum = 0;
        BigInteger weighed = BigInteger.ZERO;
        int best = 0;
        for (int year = 0; year < years; year++) {
            shares[year] = part(at + ": share", x.share(i, year));
            sum += shares[year];
            due.is(at + ": until(" + i + ", " + year + ")", part(at + ": until", x.until(i, year)), sum);
            weighed = weighed.add(BigInteger.valueOf(shares[year]).multiply(BigInteger.valueOf(year)));
            best = shares[year] > shares[best] ? year : best;
        }
        due.is(at + ": all shares", sum, total);
        due.is(at + ": best", x.best(i), best);
        long above = x.mean(i);
        BigInteger left = BigInteger.valueOf(above).multiply(BigInteger.valueOf(total));
        due.holds(at + ": mean", left.equals(weighed.multiply(BigInteger.valueOf(x.below()))));
        spanAgrees(at, i, shares);
    }

    private void spanAgrees(String at, int i, long[] shares) {
        int p = 1 + random.nextInt(1000);
        int answer = x.span(i, p);
        int first = answer / 100;
        int last = answer % 100;
        due.holds(at + ": span has enough", enough(shares, first, last, p));
        for (int from = 0; from < years; from++) {
            for (int to = from; to < years && to - from <= last - first; to++) {
                boolean isSooner = to - from < last - first || from < first;
                due.holds(at + ": span is the shortest, and the first", !isSooner || !enough(shares, from, to, p));
            }
        }
    }

    private boolean enough(long[] shares, int from, int to, int p) {
        BigInteger sum = BigInteger.ZERO;
        for (int year = from; year <= to; year++) {
            sum = sum.add(BigInteger.valueOf(shares[year]));
        }
        return sum.multiply(BigInteger.valueOf(1000)).compareTo(BigInteger.valueOf(total).multiply(BigInteger.valueOf(p))) >= 0;
    }

    private void apartAgrees(String at) {
        int i = random.nextInt(finds);
        int k = random.nextInt(finds);
        long ahead = 0;
        long same = 0;
        long behind = 0;
        for (int d = -39; d <= 39; d++) {
            long here = part(at + ": apart", x.apart(i, k, d));
            ahead += d > 0 ? here : 0;
            same += d == 0 ? here : 0;
            behind += d < 0 ? here : 0;
        }
        due.is(at + ": all distances", ahead + same + behind, total);
        due.is(at + ": order(" + i + ", " + k + ")", part(at + ": order", x.order(i, k)), ahead);
        due.is(at + ": order(" + k + ", " + i + ")", part(at + ": order", x.order(k, i)), behind);
    }

    private void drawAgrees(String at) {
        for (int turn = 0; turn < 8; turn++) {
            long number = turn == 0 ? total - 1 : (long) (random.nextDouble() * total);
            long counts = x.draw(number);
            BigInteger product = BigInteger.ONE;
            for (int i = 0; i < finds; i++) {
                int year = x.drawn(i);
                product = product.multiply(BigInteger.valueOf(weights[i][year]));
                x.tell(year);
            }
            long first = x.number();
            due.is(at + ": what the drawn one counts", counts, product.longValueExact());
            due.holds(at + ": its numbers hold " + number, first >= 0 && first <= number && number < first + counts);
        }
        due.is(at + ": past the last number", x.draw(total), -4);
    }
}
