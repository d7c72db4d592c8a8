import java.nio.charset.StandardCharsets;

/** What the tests by promise share: the findings, tables of some sorts, and ways to ask them. */
abstract class Tables {
    static final int BAD = -2;
    static final int NONE = -4;
    static final int BIG = -5;
    static final int NOTHING = -10;
    static final int PLACE = -11;
    static final int SORT = -12;
    static final int SIZE = -13;
    static final int LEAST = Integer.MIN_VALUE;
    static final int MOST = Integer.MAX_VALUE;

    static final Due due = new Due();

    static void feed(DatingTable x, String text) {
        byte[] bytes = text.getBytes(StandardCharsets.ISO_8859_1);
        for (int at = 0; at < bytes.length; at += 8) {
            long w = 0;
            int n = Math.min(8, bytes.length - at);
            for (int step = 0; step < n; step++) {
                w |= (bytes[at + step] & 255L) << (8 * step);
            }
            x.feed(w, n);
        }
    }

    /** Feeds a text, eight bytes at a time, and reads it. */
    static int read(DatingTable x, String text) {
        feed(x, text);
        return x.text();
    }

    static long numberOf(DatingTable x, int... years) {
        for (int year : years) {
            x.tell(year);
        }
        return x.number();
    }

    static DatingTable withBorders(int finds, int years) {
        DatingTable x = new DatingTable();
        x.years(years);
        for (int i = 0; i < finds; i++) {
            x.find(2, 0);
        }
        return x;
    }

    /** Seven RINGS of two ages each, too many for a TOTAL. */
    static DatingTable tooBig() {
        DatingTable x = new DatingTable();
        for (int i = 0; i < 7; i++) {
            x.find(1, 450);
            x.ring(i, 445, 1);
            x.odd(i, 9);
        }
        return x;
    }

    /** Two finds that each must come ahead of the other one. */
    static DatingTable impossible() {
        DatingTable x = withBorders(2, 5);
        x.pair(0, 1, 1);
        x.pair(1, 0, 1);
        return x;
    }

    /** BIG, and of its GIVINGS there are none: of two findings that hold, BIG is told first. */
    static DatingTable tooBigAndImpossible() {
        DatingTable x = tooBig();
        x.pair(0, 1, 1);
        x.pair(1, 0, 1);
        return x;
    }

    /**
     * In 40 YEARS, for each text a find whose sum of WEIGHTS is that of powers of its digits: "31^2"
     * is one of 3 * 3 + 1 * 1. It is RINGS with so many AGES, all the same and in the same year, and
     * each digit has a year of the curve that is so far off them.
     */
    static DatingTable byPowers(String... told) {
        DatingTable x = new DatingTable();
        x.years(40);
        int year = 0;
        for (int i = 0; i < told.length; i++) {
            int age = 100 + 100 * i;
            int power = told[i].indexOf('^');
            x.find(1, age);
            for (int ages = told[i].charAt(power + 1) - '0'; ages > 1; ages--) {
                x.ring(i, age, 0);
            }
            for (int at = 0; at < power; at++) {
                x.curve(year, age + 9 - (told[i].charAt(at) - '0'));
                year++;
            }
        }
        for (; year < 40; year++) {
            x.curve(year, 2000);
        }
        return x;
    }
}
