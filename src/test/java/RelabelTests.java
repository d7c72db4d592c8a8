import java.util.Random;

/**
 * Terms 2 says what is AHEAD and NOT LATER of any two finds, whatever their numbers are: a chain has as
 * many GIVINGS in each order of its names, and a table whose finds were told in another order answers
 * the same of each of them.
 */
public final class RelabelTests extends Tables {
    private static final int FINDS = 7;
    private static final int TABLES = 400;
    private static final String[] AHEAD = {"<", "<", "<", "<", "<", "<"};
    private static final String[] NOT_LATER = {"<=", "<=", "<=", "<=", "<=", "<="};
    private static final String[] BOTH = {"<", "<=", "<=", "<", "<=", "<"};

    private static final int[] order = {0, 1, 2, 3, 4, 5, 6};

    public static void main(String[] args) {
        eachOrder(0);
        int counted = 0;
        for (int seed = 0; seed < TABLES; seed++) {
            counted += toldInAnotherOrder(seed) ? 1 : 0;
        }
        due.holds("most tables have GIVINGS to count: " + counted, counted > TABLES / 2);
        due.end();
    }

    /** All 5040 orders, by what stands at one place after the other. */
    private static void eachOrder(int place) {
        if (place == FINDS) {
            chainsInThisOrder();
            return;
        }
        for (int with = place; with < FINDS; with++) {
            swap(place, with);
            eachOrder(place + 1);
            swap(place, with);
        }
    }

    private static void swap(int a, int b) {
        int was = order[a];
        order[a] = order[b];
        order[b] = was;
    }

    private static void chainsInThisOrder() {
        String ahead = chain(AHEAD);
        DatingTable x = withBorders(FINDS, FINDS);
        due.is("17: " + ahead, read(x, ahead), 6);
        due.is("18: " + ahead + " in 7 YEARS", x.total(), 1);
        due.is("29: " + ahead, x.draw(0), 1);
        for (int place = 0; place < FINDS; place++) {
            due.is("30: " + ahead + ", place " + place, x.drawn(order[place]), place);
        }
        due.fraction("23: " + ahead, x, x.apart(order[0], order[6], 6), 1, 1);
        x.years(2);
        read(x, chain(NOT_LATER));
        due.is("18: " + chain(NOT_LATER) + " in 2 YEARS", x.total(), 8);
        x.years(5);
        read(x, chain(BOTH));
        // Seven years that rise 3 times at least by 1, of 5: as many as seven that need not rise, of 2.
        due.is("18: " + chain(BOTH) + " in 5 YEARS", x.total(), 8);
    }

    private static String chain(String[] signs) {
        StringBuilder text = new StringBuilder();
        for (int place = 0; place < FINDS; place++) {
            text.append(place == 0 ? "" : signs[place - 1]).append((char) ('a' + order[place]));
        }
        return text.toString();
    }

    // ---- the same finds, told in another order

    /** Find i of the table as it was first told is find at[i] of the object. */
    private static DatingTable made(int seed, int[] at) {
        Random random = new Random(seed);
        DatingTable x = new DatingTable();
        x.years(10 + random.nextInt(31));
        for (int year = 0; year < 40; year++) {
            x.curve(year, 480 - 3 * year + random.nextInt(15));
        }
        int[][] finds = new int[FINDS][];
        for (int i = 0; i < FINDS; i++) {
            int kind = random.nextInt(12) == 0 ? 3 : random.nextInt(3);
            // The later ones are younger, so that most PAIRS can be.
            int v = kind == 3 ? i : 470 - 4 * i + random.nextInt(10);
            finds[i] = new int[] {kind, v, random.nextInt(3) == 0 ? random.nextInt(10) : 0};
        }
        for (int k = 0; k < FINDS; k++) {
            for (int i = 0; i < FINDS; i++) {
                if (at[i] == k) {
                    x.find(finds[i][0], finds[i][1]);
                    x.odd(k, finds[i][2]);
                }
            }
        }
        int pairs = 2 + random.nextInt(7);
        for (int p = 0; p < pairs; p++) {
            int i = random.nextInt(FINDS - 1);
            int k = i + 1 + random.nextInt(FINDS - 1 - i);
            x.pair(at[i], at[k], 1 + random.nextInt(2));
        }
        return x;
    }

    private static int[] shuffled(int seed) {
        Random random = new Random(seed + 1000000L);
        int[] at = {0, 1, 2, 3, 4, 5, 6};
        for (int i = FINDS - 1; i > 0; i--) {
            int k = random.nextInt(i + 1);
            int was = at[i];
            at[i] = at[k];
            at[k] = was;
        }
        return at;
    }

    /** Whether there was something to count. */
    private static boolean toldInAnotherOrder(int seed) {
        int[] same = {0, 1, 2, 3, 4, 5, 6};
        int[] turned = {6, 5, 4, 3, 2, 1, 0};
        int[] at = seed % 4 == 0 ? turned : shuffled(seed);
        DatingTable x = made(seed, same);
        DatingTable y = made(seed, at);
        String table = "table " + seed + ": ";
        due.is(table + "18: total()", y.total(), x.total());
        for (int i = 0; i < FINDS; i++) {
            int k = (i + 1 + seed % 6) % FINDS;
            alike(table + "19: share()", x, x.share(i, 9), y, y.share(at[i], 9));
            alike(table + "21: until()", x, x.until(i, 8), y, y.until(at[i], 8));
            alike(table + "22: order()", x, x.order(i, k), y, y.order(at[i], at[k]));
            alike(table + "23: apart()", x, x.apart(i, k, 2), y, y.apart(at[i], at[k], 2));
            alike(table + "24: mean()", x, x.mean(i), y, y.mean(at[i]));
            due.is(table + "25: best()", y.best(at[i]), x.best(i));
            due.is(table + "26: span()", y.span(at[i], 680), x.span(i, 680));
            alike(table + "27: strange()", x, x.strange(i), y, y.strange(at[i]));
            alike(table + "28: without()", x, x.without(i), y, y.without(at[i]));
        }
        return x.total() > 0;
    }

    private static void alike(String call, DatingTable x, long ofX, DatingTable y, long ofY) {
        due.is(call, ofY, ofX);
        due.is("below() after " + call, y.below(), x.below());
    }
}
