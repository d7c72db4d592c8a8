import java.util.Random;

/** Random runs of 512 calls, each answer held against that of the plain model; the seeds are fixed. */
public final class ReferenceTests {
    private static final int RUNS = 2600;
    private static final int CALLS = 512;
    /** One turn of a run asks no more than this: the longest text, byte by byte, and text(). */
    private static final int MOST_OF_A_TURN = 40;
    private static final int[] WILD = {Integer.MIN_VALUE, Integer.MAX_VALUE, -1, 0, 7, 40, 41, 60, 61, 2000, 2001, -40, 1000};
    private static final String SIGNS = "abcdefg<<=;(,)";

    private final Due due = new Due();
    private final long[] compared = new long[35];
    private long unknown = 0;
    private int asked;
    private Random random;
    private DatingTable x;
    private PlainTable plain;
    private int mostYears;
    private int mostFinds;

    public static void main(String[] args) {
        ReferenceTests tests = new ReferenceTests();
        for (int run = 0; run < RUNS && tests.due.wrongOnes() == 0; run++) {
            tests.oneRun(run);
        }
        tests.lookAtWhatWasAsked();
        tests.due.end();
    }

    private void lookAtWhatWasAsked() {
        for (int call = 0; call < 35; call++) {
            due.holds("call " + call + " was compared often: " + compared[call], compared[call] > RUNS);
        }
        System.out.println(unknown + " answers were unknown to the plain model");
    }

    private void oneRun(int run) {
        random = new Random(run);
        x = new DatingTable();
        plain = new PlainTable();
        boolean isNarrow = run % 3 != 0;
        mostYears = isNarrow ? 2 + run % 7 : 40;
        mostFinds = isNarrow ? 4 + run % 4 : 7;
        asked = 0;
        if (isNarrow) {
            is(0, "years", x.years(mostYears), plain.years(mostYears));
        }
        while (asked <= CALLS - MOST_OF_A_TURN) {
            oneCall(run + "." + asked + " ", pick());
        }
        while (asked < CALLS) {
            lastCalls(run + "." + asked + " ");
        }
    }

    /** To the 512th call, by turns of one call each. */
    private void lastCalls(String at) {
        int[] turnsOfOne = {0, 1, 2, 3, 4, 8, 9, 10, 11, 12, 13, 14, 15, 17, 29, 30, 32, 34};
        int call = turnsOfOne[random.nextInt(turnsOfOne.length)];
        if (call == 17) {
            is(call, at + "total", x.total(), plain.total());
        } else {
            oneCall(at, call);
        }
    }

    /** Finds come and go so that there are some most of the time, and seldom too many to go through. */
    private int pick() {
        int finds = plain.now.things.size();
        if (finds > mostFinds || plain.total() == PlainTable.UNKNOWN && random.nextInt(4) == 0) {
            return 14;
        }
        if (finds < 2 && random.nextInt(3) == 0) {
            return 8;
        }
        int call = random.nextInt(35);
        return call == 14 && random.nextInt(2) == 0 ? 8 : call;
    }

    private int any(int least, int most) {
        if (random.nextInt(40) == 0) {
            return WILD[random.nextInt(WILD.length)];
        }
        return least + random.nextInt(most - least + 1);
    }

    private int anyFind() {
        int finds = plain.now.things.size();
        return finds == 0 ? any(0, 6) : any(0, finds - 1);
    }

    private int anyYear() {
        return any(0, plain.now.years - 1);
    }

    /** An age that is near one of the curve. */
    private int anyAge() {
        return Math.max(0, plain.now.curve[random.nextInt(plain.now.years)] + random.nextInt(13) - 6);
    }

    /** Stands behind each call of the object, so that it counts them, too. */
    private void is(int call, String name, long got, long want) {
        asked++;
        if (want == PlainTable.UNKNOWN) {
            unknown++;
            return;
        }
        compared[call]++;
        due.is(name, got, want);
    }

    private void oneCall(String at, int call) {
        if (call < 8) {
            aboutYears(at, call);
        } else if (call < 17) {
            aboutFinds(at, call);
        } else if (call < 28) {
            aboutShares(at, call);
        } else {
            aboutAll(at, call);
        }
    }

    private void aboutYears(String at, int call) {
        int s = any(0, 3);
        int sort = any(0, 3);
        switch (call) {
            case 0: {
                int n = any(1, mostYears);
                is(call, at + "years " + n, x.years(n), plain.years(n));
                break;
            }
            case 1: {
                int year = any(0, 39);
                int v = random.nextBoolean() ? any(300, 510) : anyAge();
                is(call, at + "curve " + year + " " + v, x.curve(year, v), plain.curve(year, v));
                break;
            }
            case 2: {
                int d = any(0, 20);
                int v = any(0, 9);
                is(call, at + "miss " + d + " " + v, x.miss(d, v), plain.miss(d, v));
                break;
            }
            case 3: {
                int n = any(-2, 61);
                is(call, at + "sheet " + s + " " + sort + " " + n, x.sheet(s, sort, n), plain.sheet(s, sort, n));
                break;
            }
            case 4:
            case 5: {
                int i = any(0, 20);
                int v = random.nextInt(3) == 0 ? random.nextInt() : any(300, 510);
                is(call, at + "write " + s + " " + i + " " + v, x.write(s, i, v), plain.write(s, i, v));
                break;
            }
            case 6: {
                if (random.nextInt(4) == 0) {
                    is(call, at + "lose " + s, x.lose(s), plain.lose(s));
                    break;
                }
                aboutYears(at, 7);
                is(call, at + "lose -1", x.lose(-1), plain.lose(-1));
                break;
            }
            default: {
                int right = s >= 0 && s < 4 && random.nextInt(4) != 0 ? Math.max(0, plain.sorts[s]) : sort;
                int i = any(-1, 20);
                int year = any(0, 39);
                int n = any(0, 6);
                is(7, at + "lay " + s + " " + right + " " + i + " " + year + " " + n,
                    x.lay(s, right, i, year, n), plain.lay(s, right, i, year, n));
            }
        }
    }

    private void aboutFinds(String at, int call) {
        int i = anyFind();
        switch (call) {
            case 8: {
                int kind = random.nextInt(6) < 3 ? random.nextInt(2) : any(0, 3);
                int v = kind == 3 ? anyYear() : random.nextInt(9) == 0 ? any(0, 2001) : anyAge();
                is(call, at + "find " + kind + " " + v, x.find(kind, v), plain.find(kind, v));
                break;
            }
            case 9: {
                int age = anyAge();
                int gap = any(0, 3);
                is(call, at + "ring " + i + " " + age + " " + gap, x.ring(i, age, gap), plain.ring(i, age, gap));
                break;
            }
            case 10: {
                int o = any(0, 9);
                is(call, at + "odd " + i + " " + o, x.odd(i, o), plain.odd(i, o));
                break;
            }
            case 11: {
                int k = anyFind();
                int how = any(0, 2);
                boolean isBackward = mostFinds % 2 == 0 ? i > k : i < k;
                if (isBackward && random.nextInt(3) != 0) {
                    how = 0;
                }
                is(call, at + "pair " + i + " " + k + " " + how, x.pair(i, k, how), plain.pair(i, k, how));
                break;
            }
            case 12: {
                int what = any(0, 5);
                is(call, at + "of " + i + " " + what, x.of(i, what), plain.of(i, what));
                break;
            }
            case 13: {
                int year = anyYear();
                is(call, at + "weight " + i + " " + year, x.weight(i, year), plain.weight(i, year));
                break;
            }
            case 14:
                is(call, at + "drop", x.drop(), plain.drop());
                break;
            case 15:
                feed(at);
                break;
            default:
                if (random.nextInt(3) != 0) {
                    feedText(at);
                }
                is(16, at + "text", x.text(), plain.text());
        }
    }

    private void feed(String at) {
        long w = 0;
        for (int step = 0; step < 8; step++) {
            w = w << 8 | SIGNS.charAt(random.nextInt(SIGNS.length()));
        }
        int n = any(1, 8);
        is(15, at + "feed " + w + " " + n, x.feed(w, n), plain.feed(w, n));
    }

    /** A text that is right but for a byte now and then. */
    private void feedText(String at) {
        StringBuilder text = new StringBuilder();
        int groups = 1 + random.nextInt(4);
        for (int g = 0; g < groups; g++) {
            text.append(g == 0 ? "" : new String[] {"<", "<=", ";"}[random.nextInt(3)]);
            boolean isMany = random.nextInt(3) == 0;
            text.append(isMany ? "(" : "").append(name());
            for (int more = random.nextInt(3); isMany && more > 0; more--) {
                text.append(',').append(name());
            }
            text.append(isMany ? ")" : "");
        }
        if (random.nextInt(6) == 0) {
            text.setCharAt(random.nextInt(text.length()), (char) random.nextInt(256));
        }
        for (int k = 0; k < text.length(); k++) {
            is(15, at + "feed", x.feed(text.charAt(k), 1), plain.feed(text.charAt(k), 1));
        }
    }

    private char name() {
        return (char) ('a' + random.nextInt(Math.max(1, plain.now.things.size())));
    }

    private void aboutShares(String at, int call) {
        int i = anyFind();
        int k = anyFind();
        int year = anyYear();
        switch (call) {
            case 17:
                is(call, at + "total", x.total(), plain.total());
                break;
            case 18:
                is(call, at + "share " + i + " " + year, x.share(i, year), plain.share(i, year));
                break;
            case 19:
                is(call, at + "until " + i + " " + year, x.until(i, year), plain.until(i, year));
                break;
            case 20:
                is(call, at + "order " + i + " " + k, x.order(i, k), plain.order(i, k));
                break;
            case 21: {
                int d = random.nextInt(3) == 0 ? any(-40, 40) : any(-4, 4);
                is(call, at + "apart " + i + " " + k + " " + d, x.apart(i, k, d), plain.apart(i, k, d));
                break;
            }
            case 22:
                is(call, at + "mean " + i, x.mean(i), plain.mean(i));
                break;
            case 23:
                is(call, at + "best " + i, x.best(i), plain.best(i));
                break;
            case 24: {
                int p = any(0, 1001);
                is(call, at + "span " + i + " " + p, x.span(i, p), plain.span(i, p));
                break;
            }
            case 25:
                is(call, at + "strange " + i, x.strange(i), plain.strange(i));
                break;
            case 26:
                is(call, at + "without " + i, x.without(i), plain.without(i));
                break;
            default:
                is(call, at + "bears", x.bears(), plain.bears());
        }
        is(call, at + "below", x.below(), plain.below);
    }

    private void aboutAll(String at, int call) {
        switch (call) {
            case 28:
                draw(at);
                break;
            case 29: {
                int i = anyFind();
                is(call, at + "drawn " + i, x.drawn(i), plain.drawn(i));
                break;
            }
            case 30: {
                int v = any(0, 39);
                is(call, at + "tell " + v, x.tell(v), plain.tell(v));
                break;
            }
            case 31:
                number(at);
                break;
            case 32:
                is(call, at + "keep", x.keep(), plain.keep());
                break;
            case 33:
                if (random.nextInt(3) == 0) {
                    is(call, at + "back", x.back(), plain.back());
                    break;
                }
                is(call, at + "below", x.below(), plain.below);
                break;
            default: {
                int what = any(0, 4);
                is(34, at + "count " + what, x.count(what), plain.count(what));
            }
        }
    }

    private void draw(String at) {
        long total = plain.total();
        if (total == PlainTable.UNKNOWN) {
            return;
        }
        long number = total > 0 ? (long) (random.nextDouble() * total) : random.nextInt(3) - 1;
        if (random.nextInt(10) == 0) {
            number = random.nextBoolean() ? total : random.nextLong();
        }
        is(28, at + "draw " + number, x.draw(number), plain.draw(number));
        for (int i = 0; i < plain.now.things.size(); i++) {
            is(29, at + "drawn " + i, x.drawn(i), plain.drawn(i));
        }
    }

    /** Most of the time the years of a drawn giving, sometimes with one year changed. */
    private void number(String at) {
        int finds = plain.now.things.size();
        boolean isDrawn = plain.drawn != null && plain.waiting.isEmpty();
        for (int i = 0; i < finds; i++) {
            int year = isDrawn && random.nextInt(8) != 0 ? plain.drawn[i] : anyYear();
            is(30, at + "tell " + year, x.tell(year), plain.tell(year));
        }
        is(31, at + "number", x.number(), plain.number());
        is(34, at + "count 3", x.count(3), plain.count(3));
    }
}
