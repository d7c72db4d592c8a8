import java.util.Arrays;

/**
 * A table for dating things that were found in an order. The document ../shared/DOC.md tells what
 * each call does; the words in capitals there are the words of the comments here.
 */
public final class DatingTable {
    private static final int BAD = -2;
    private static final int WRONG = -3;
    private static final int NONE = -4;
    private static final int BIG = -5;
    private static final int NOTHING = -10;
    private static final int PLACE = -11;
    private static final int SORT = -12;
    private static final int SIZE = -13;

    private static final int MOST_YEARS = 40;
    private static final int MOST_FINDS = 7;
    private static final int MOST_AGES = 5;
    private static final int MOST_AGE = 2000;
    private static final int MOST_DIFFERENCE = 20;
    private static final int MOST_DIGIT = 9;
    private static final int SETS_OF_FINDS = 128;

    private static final int KIND_FIND = 0;
    private static final int KIND_RINGS = 1;
    private static final int KIND_BORDER = 2;
    private static final int KIND_KNOWN = 3;

    private static final int NEITHER = 0;
    private static final int AHEAD = 1;
    private static final int NOT_LATER = 2;

    private static final int SORT_BYTES = 0;
    private static final int SORT_SHORTS = 1;
    private static final int SORT_CHARS = 2;
    private static final int SORT_INTS = 3;
    private static final int SHEETS = 4;
    private static final int MOST_ON_SHEET = 60;

    private static final int MOST_ON_TAPE = 200;
    private static final int MOST_FED = 8;
    private static final int MOST_WAITING = 20;
    private static final int THOUSANDTHS = 1000;
    private static final long BIG_ABOVE = 4000000000000000L;
    /** Euclid needs fewer than 100 steps for any two longs. */
    private static final int EUCLID_STEPS = 200;

    private final Telling now = new Telling();
    private final Telling kept = new Telling();
    private boolean isKept = false;
    private final Sheet[] sheets = new Sheet[SHEETS];
    private final Tape tape = new Tape();
    private final Weighing weighing = new Weighing();
    private final Counter counter = new Counter(weighing);
    private final int[] waiting = new int[MOST_WAITING];
    private int waitingCount = 0;
    private final int[] drawnYears = new int[MOST_FINDS];
    private boolean isDrawn = false;
    private long lowerPart = 1;
    private int hostFindings = 0;

    public DatingTable() {
        for (int s = 0; s < SHEETS; s++) {
            sheets[s] = new Sheet();
        }
    }

    // ---- years, the curve

    public int years(int n) {
        if (n < 1 || n > MOST_YEARS) {
            return BAD;
        }
        int was = now.yearCount;
        now.yearCount = n;
        return was;
    }

    public int curve(int year, int v) {
        if (year < 0 || year >= MOST_YEARS || !isAge(v)) {
            return BAD;
        }
        int was = now.ageOfYear[year];
        now.ageOfYear[year] = v;
        return was;
    }

    public int miss(int difference, int v) {
        if (difference < 0 || difference > MOST_DIFFERENCE || !isDigit(v)) {
            return BAD;
        }
        int was = now.misses[difference];
        now.misses[difference] = v;
        return was;
    }

    public int sheet(int s, int sort, int n) {
        if (!isSheet(s) || !isSort(sort) || n > MOST_ON_SHEET) {
            return BAD;
        }
        if (n < 0) {
            return hostFinding(SIZE);
        }
        sheets[s].become(sort, n);
        return n;
    }

    public int write(int s, int i, int v) {
        if (!isSheet(s)) {
            return BAD;
        }
        Sheet row = sheets[s];
        if (!row.isThere) {
            return hostFinding(NOTHING);
        }
        if (!row.hasFrom(i, 1)) {
            return hostFinding(PLACE);
        }
        int was = row.numbers[i];
        row.numbers[i] = row.narrowed(v);
        return was;
    }

    public int lose(int s) {
        if (!isSheet(s)) {
            return BAD;
        }
        int was = sheets[s].isThere ? 1 : 0;
        sheets[s].isThere = false;
        return was;
    }

    public int lay(int s, int sort, int i, int year, int n) {
        if (!isSheet(s) || !isSort(sort) || year < 0 || year >= MOST_YEARS) {
            return BAD;
        }
        if (n < 0 || n > MOST_YEARS - year) {
            return BAD;
        }
        Sheet row = sheets[s];
        if (!row.isThere) {
            return hostFinding(NOTHING);
        }
        if (row.sort != sort) {
            return hostFinding(SORT);
        }
        if (n > 0 && !row.hasFrom(i, n)) {
            return hostFinding(PLACE);
        }
        int outside = 0;
        for (int step = 0; step < n; step++) {
            int v = row.numbers[i + step];
            if (!isAge(v)) {
                outside++;
            }
            now.ageOfYear[year + step] = Math.max(0, Math.min(MOST_AGE, v));
        }
        return outside;
    }

    // ---- finds

    public int find(int kind, int v) {
        if (!isOfKind(kind, v) || now.findCount >= MOST_FINDS) {
            return BAD;
        }
        int i = now.findCount;
        now.finds[i].become(kind, v);
        now.findCount = i + 1;
        isDrawn = false;
        return i;
    }

    public int ring(int i, int age, int gap) {
        if (!isFind(i) || !isAge(age) || gap < 0 || gap >= MOST_YEARS) {
            return BAD;
        }
        Find f = now.finds[i];
        if (f.kind != KIND_RINGS) {
            return hostFinding(SORT);
        }
        if (f.ageCount >= MOST_AGES) {
            return BAD;
        }
        f.addAge(age, gap);
        return f.ageCount;
    }

    public int odd(int i, int o) {
        if (!isFind(i) || !isDigit(o)) {
            return BAD;
        }
        int was = now.finds[i].oddness;
        now.finds[i].oddness = o;
        return was;
    }

    public int pair(int i, int k, int how) {
        if (!isFind(i) || !isFind(k) || i == k || how < NEITHER || how > NOT_LATER) {
            return BAD;
        }
        int was = now.pairs.howOf(i, k);
        now.pairs.put(i, k, how);
        return was;
    }

    public int of(int i, int what) {
        if (!isFind(i)) {
            return BAD;
        }
        Find f = now.finds[i];
        switch (what) {
            case 0:
                return f.kind;
            case 1:
                return f.age[0];
            case 2:
                return f.oddness;
            case 3:
                return f.ageCount;
            case 4:
                return now.meanPlain(f);
            case 5:
                return now.yearsThatWeigh(f);
            default:
                return BAD;
        }
    }

    public int weight(int i, int year) {
        if (!isFind(i) || !isYear(year)) {
            return BAD;
        }
        Find f = now.finds[i];
        return f.weightFrom(now.plainAt(f, year), now.meanPlain(f));
    }

    public int drop() {
        if (now.findCount == 0) {
            return hostFinding(NOTHING);
        }
        now.findCount--;
        now.pairs.forget(now.findCount);
        isDrawn = false;
        return now.findCount;
    }

    // ---- text

    public int feed(long w, int n) {
        if (n < 1 || n > MOST_FED || n > MOST_ON_TAPE - tape.length) {
            return BAD;
        }
        tape.append(w, n);
        return tape.length;
    }

    public int text() {
        boolean isText = tape.readAll(now.findCount);
        tape.length = 0;
        if (!isText) {
            return WRONG - tape.at;
        }
        now.pairs.copyFrom(tape.told);
        return now.pairs.howMany();
    }

    // ---- what is counted

    public long total() {
        return weigh(now);
    }

    public long share(int i, int year) {
        if (!isFind(i) || !isYear(year)) {
            return BAD;
        }
        long whole = weighForShare();
        return whole < 0 ? whole : shareWithin(i, year, year, whole);
    }

    public long below() {
        return lowerPart;
    }

    public long until(int i, int year) {
        if (!isFind(i) || !isYear(year)) {
            return BAD;
        }
        long whole = weighForShare();
        return whole < 0 ? whole : shareWithin(i, 0, year, whole);
    }

    public long order(int i, int k) {
        if (!isFind(i) || !isFind(k)) {
            return BAD;
        }
        long whole = weighForShare();
        if (whole < 0) {
            return whole;
        }
        if (i == k) {
            return fraction(0, whole);
        }
        weighing.pairs.put(i, k, AHEAD);
        return fraction(counter.countAll(), whole);
    }

    public long apart(int i, int k, int d) {
        if (!isFind(i) || !isFind(k) || d <= -MOST_YEARS || d >= MOST_YEARS) {
            return BAD;
        }
        long whole = weighForShare();
        if (whole < 0) {
            return whole;
        }
        if (i == k) {
            return fraction(d == 0 ? whole : 0, whole);
        }
        long sum = 0;
        for (int year = Math.max(0, -d); year < now.yearCount && year + d < now.yearCount; year++) {
            weighing.limit(i, year, year);
            weighing.limit(k, year + d, year + d);
            sum += counter.countAll();
        }
        return fraction(sum, whole);
    }

    public long mean(int i) {
        if (!isFind(i)) {
            return BAD;
        }
        long whole = weighForShare();
        if (whole < 0) {
            return whole;
        }
        weighing.multiplyByYears(i);
        return fraction(counter.countAll(), whole);
    }

    public int best(int i) {
        if (!isFind(i)) {
            return BAD;
        }
        long whole = weighForShare();
        if (whole < 0) {
            return (int) whole;
        }
        counter.countEachYear(i);
        int found = 0;
        for (int year = 1; year < now.yearCount; year++) {
            if (counter.perYear[year] > counter.perYear[found]) {
                found = year;
            }
        }
        return found;
    }

    public int span(int i, int p) {
        if (!isFind(i) || p < 1 || p > THOUSANDTHS) {
            return BAD;
        }
        long whole = weighForShare();
        if (whole < 0) {
            return (int) whole;
        }
        counter.countEachYear(i);
        return shortestRow(p * whole);
    }

    public long strange(int i) {
        if (!isFind(i)) {
            return BAD;
        }
        long whole = weighForShare();
        if (whole < 0) {
            return whole;
        }
        Find f = now.finds[i];
        weighing.level(i, f.oddness * now.meanPlain(f));
        return fraction(counter.countAll(), whole);
    }

    public long without(int i) {
        if (!isFind(i)) {
            return BAD;
        }
        long whole = weigh(now);
        if (whole < 0) {
            return BIG;
        }
        weighing.leaveOut(i);
        if (weighing.isBig()) {
            return BIG;
        }
        long others = counter.countAll();
        return others == 0 ? NONE : fraction(whole, others);
    }

    // ---- givings

    public long draw(long number) {
        if (number < 0) {
            return BAD;
        }
        long whole = weigh(now);
        if (whole < 0) {
            return BIG;
        }
        if (number >= whole) {
            return NONE;
        }
        isDrawn = true;
        return settleYears(number);
    }

    public int drawn(int i) {
        if (!isDrawn) {
            return hostFinding(NOTHING);
        }
        return isFind(i) ? drawnYears[i] : BAD;
    }

    public int tell(int v) {
        if (waitingCount >= MOST_WAITING) {
            return BAD;
        }
        waiting[waitingCount] = v;
        waitingCount++;
        return waitingCount;
    }

    public long number() {
        int given = waitingCount;
        waitingCount = 0;
        if (given != now.findCount) {
            return BAD;
        }
        for (int i = 0; i < given; i++) {
            if (!isYear(waiting[i])) {
                return BAD;
            }
        }
        if (weigh(now) < 0) {
            return BIG;
        }
        return countAheadOfWaiting(given);
    }

    // ---- all

    public int keep() {
        kept.copyFrom(now);
        isKept = true;
        return now.findCount;
    }

    public int back() {
        if (!isKept) {
            return hostFinding(NOTHING);
        }
        now.copyFrom(kept);
        isDrawn = false;
        return now.findCount;
    }

    public long bears() {
        if (!isKept) {
            return hostFinding(NOTHING);
        }
        long ofKept = weigh(kept);
        long ofNow = weigh(now);
        if (ofKept < 0 || ofNow < 0) {
            return BIG;
        }
        return ofKept == 0 ? NONE : fraction(ofNow, ofKept);
    }

    public int count(int what) {
        switch (what) {
            case 0:
                return now.findCount;
            case 1:
                return now.yearCount;
            case 2:
                return now.pairs.howMany();
            case 3:
                return waitingCount;
            case 4:
                return hostFindings;
            default:
                return BAD;
        }
    }

    // ---- what may be asked

    private boolean isFind(int i) {
        return i >= 0 && i < now.findCount;
    }

    private boolean isYear(int year) {
        return year >= 0 && year < now.yearCount;
    }

    private static boolean isAge(int v) {
        return v >= 0 && v <= MOST_AGE;
    }

    private static boolean isDigit(int v) {
        return v >= 0 && v <= MOST_DIGIT;
    }

    private static boolean isSheet(int s) {
        return s >= 0 && s < SHEETS;
    }

    private static boolean isSort(int sort) {
        return sort >= SORT_BYTES && sort <= SORT_INTS;
    }

    private static boolean isOfKind(int kind, int v) {
        switch (kind) {
            case KIND_FIND:
            case KIND_RINGS:
                return isAge(v);
            case KIND_BORDER:
                return true;
            case KIND_KNOWN:
                return v >= 0 && v < MOST_YEARS;
            default:
                return false;
        }
    }

    private int hostFinding(int finding) {
        hostFindings++;
        return finding;
    }

    // ---- how it is counted

    /** THE TOTAL of a telling, or BIG; the weighing stays loaded with it. */
    private long weigh(Telling telling) {
        weighing.load(telling);
        return weighing.isBig() ? BIG : counter.countAll();
    }

    /** THE TOTAL where SHARES of it can be told, else BIG or NONE. */
    private long weighForShare() {
        long whole = weigh(now);
        return whole == 0 ? NONE : whole;
    }

    private long shareWithin(int i, int from, int to, long whole) {
        weighing.limit(i, from, to);
        return fraction(counter.countAll(), whole);
    }

    private long fraction(long above, long under) {
        long common = greatestDivisor(above, under);
        if (common <= 0) {
            return 0;
        }
        lowerPart = under / common;
        return above / common;
    }

    private static long greatestDivisor(long a, long b) {
        long greater = a;
        long lesser = b;
        for (int step = 0; step < EUCLID_STEPS && lesser != 0; step++) {
            long left = greater % lesser;
            greater = lesser;
            lesser = left;
        }
        return greater;
    }

    /** The answer of span(), by the years just counted; THE TOTAL's bound keeps the products small. */
    private int shortestRow(long thousandthsDue) {
        for (int length = 1; length <= now.yearCount; length++) {
            long sum = 0;
            for (int last = 0; last < now.yearCount; last++) {
                sum += counter.perYear[last];
                int first = last - length + 1;
                if (first > 0) {
                    sum -= counter.perYear[first - 1];
                }
                if (first >= 0 && sum * THOUSANDTHS >= thousandthsDue) {
                    return 100 * first + last;
                }
            }
        }
        return NONE;
    }

    /** Settles find after find on the year whose NUMBERS hold the one sought: what the GIVING COUNTS. */
    private long settleYears(long number) {
        long left = number;
        long counts = 1;
        for (int i = 0; i < now.findCount; i++) {
            counter.countEachYear(i);
            int year = 0;
            while (year < now.yearCount - 1 && left >= counter.perYear[year]) {
                left -= counter.perYear[year];
                year++;
            }
            counts = counter.perYear[year];
            drawnYears[i] = year;
            weighing.limit(i, year, year);
        }
        return counts;
    }

    /** What all GIVINGS ahead of the one that waited COUNT: those that first part from it at find i. */
    private long countAheadOfWaiting(int given) {
        long sum = 0;
        for (int i = 0; i < given; i++) {
            weighing.limit(i, 0, waiting[i] - 1);
            sum += counter.countAll();
            weighing.limit(i, waiting[i], waiting[i]);
        }
        return counter.countAll() == 0 ? NONE : sum;
    }

    /** Rows are made once and used again, since all that a run makes is counted. */
    static final class Sheet {
        private boolean isThere = false;
        private int sort = 0;
        private int length = 0;
        private final int[] numbers = new int[MOST_ON_SHEET];

        void become(int newSort, int n) {
            isThere = true;
            sort = newSort;
            length = n;
            Arrays.fill(numbers, 0);
        }

        boolean hasFrom(int i, int n) {
            return i >= 0 && i <= length - n;
        }

        int narrowed(int v) {
            switch (sort) {
                case SORT_BYTES:
                    return (byte) v;
                case SORT_SHORTS:
                    return (short) v;
                case SORT_CHARS:
                    return (char) v;
                default:
                    return v;
            }
        }
    }

    static final class Find {
        private int kind = KIND_FIND;
        private int oddness = 0;
        private int ageCount = 0;
        /** The first one is the find's own age, or the year of a KNOWN one. */
        private final int[] age = new int[MOST_AGES];
        private final int[] gap = new int[MOST_AGES];

        void become(int newKind, int v) {
            kind = newKind;
            oddness = 0;
            ageCount = newKind == KIND_FIND || newKind == KIND_RINGS ? 1 : 0;
            age[0] = newKind == KIND_BORDER ? 0 : v;
            gap[0] = 0;
        }

        void addAge(int v, int later) {
            if (ageCount < MOST_AGES) {
                age[ageCount] = v;
                gap[ageCount] = later;
                ageCount++;
            }
        }

        void copyFrom(Find other) {
            kind = other.kind;
            oddness = other.oddness;
            ageCount = other.ageCount;
            System.arraycopy(other.age, 0, age, 0, MOST_AGES);
            System.arraycopy(other.gap, 0, gap, 0, MOST_AGES);
        }

        int weightFrom(int plain, int meanPlain) {
            return oddness == 0 ? plain : (10 - oddness) * plain + oddness * meanPlain;
        }
    }

    /** For each find the set of those that are AHEAD of it, and of those that are NOT LATER. */
    static final class Pairs {
        private final int[] ahead = new int[MOST_FINDS];
        private final int[] notLater = new int[MOST_FINDS];

        int howOf(int i, int k) {
            if ((ahead[k] >> i & 1) != 0) {
                return AHEAD;
            }
            return (notLater[k] >> i & 1) != 0 ? NOT_LATER : NEITHER;
        }

        void put(int i, int k, int how) {
            int bit = 1 << i;
            ahead[k] = how == AHEAD ? ahead[k] | bit : ahead[k] & ~bit;
            notLater[k] = how == NOT_LATER ? notLater[k] | bit : notLater[k] & ~bit;
        }

        void forget(int i) {
            for (int k = 0; k < MOST_FINDS; k++) {
                put(i, k, NEITHER);
            }
            ahead[i] = 0;
            notLater[i] = 0;
        }

        void clear() {
            Arrays.fill(ahead, 0);
            Arrays.fill(notLater, 0);
        }

        void copyFrom(Pairs other) {
            System.arraycopy(other.ahead, 0, ahead, 0, MOST_FINDS);
            System.arraycopy(other.notLater, 0, notLater, 0, MOST_FINDS);
        }

        int howMany() {
            int sum = 0;
            for (int k = 0; k < MOST_FINDS; k++) {
                sum += Integer.bitCount(ahead[k]) + Integer.bitCount(notLater[k]);
            }
            return sum;
        }
    }

    /** All that keep() keeps. */
    static final class Telling {
        private int yearCount = 30;
        private final int[] ageOfYear = new int[MOST_YEARS];
        private final int[] misses = new int[MOST_DIFFERENCE + 1];
        private int findCount = 0;
        private final Find[] finds = new Find[MOST_FINDS];
        private final Pairs pairs = new Pairs();

        Telling() {
            for (int year = 0; year < MOST_YEARS; year++) {
                ageOfYear[year] = 500 - 5 * year;
            }
            for (int difference = 0; difference <= MOST_DIFFERENCE; difference++) {
                misses[difference] = Math.max(0, MOST_DIGIT - difference);
            }
            for (int i = 0; i < MOST_FINDS; i++) {
                finds[i] = new Find();
            }
        }

        void copyFrom(Telling other) {
            yearCount = other.yearCount;
            System.arraycopy(other.ageOfYear, 0, ageOfYear, 0, MOST_YEARS);
            System.arraycopy(other.misses, 0, misses, 0, MOST_DIFFERENCE + 1);
            findCount = other.findCount;
            for (int i = 0; i < other.findCount; i++) {
                finds[i].copyFrom(other.finds[i]);
            }
            pairs.copyFrom(other.pairs);
        }

        int plainAt(Find f, int year) {
            switch (f.kind) {
                case KIND_BORDER:
                    return 1;
                case KIND_KNOWN:
                    return f.age[0] == year ? 1 : 0;
                default:
                    return plainOfAges(f, year);
            }
        }

        private int plainOfAges(Find f, int year) {
            int product = 1;
            for (int a = 0; a < f.ageCount; a++) {
                int there = year + f.gap[a];
                if (there < 0 || there >= yearCount) {
                    return 0;
                }
                int difference = Math.abs(f.age[a] - ageOfYear[there]);
                if (difference > MOST_DIFFERENCE) {
                    return 0;
                }
                product *= misses[difference];
            }
            return product;
        }

        int meanPlain(Find f) {
            int sum = 0;
            for (int year = 0; year < yearCount; year++) {
                sum += plainAt(f, year);
            }
            return yearCount > 0 ? sum / yearCount : 0;
        }

        int yearsThatWeigh(Find f) {
            int meanOfF = meanPlain(f);
            int sum = 0;
            for (int year = 0; year < yearCount; year++) {
                if (f.weightFrom(plainAt(f, year), meanOfF) > 0) {
                    sum++;
                }
            }
            return sum;
        }
    }

    /** The bytes that were fed, and the reading of them as a TEXT. */
    static final class Tape {
        private final byte[] bytes = new byte[MOST_ON_TAPE];
        private int length = 0;
        /** Where the reading stands; where it stopped, that is WRONG. */
        private int at = 0;
        private int findCount = 0;
        private int group = 0;
        private final Pairs told = new Pairs();

        void append(long w, int n) {
            for (int step = 0; step < n && length < MOST_ON_TAPE; step++) {
                bytes[length] = (byte) (w >>> (8 * step));
                length++;
            }
        }

        boolean readAll(int finds) {
            at = 0;
            findCount = finds;
            told.clear();
            boolean isRight = readGroup();
            for (int turn = 0; turn < MOST_ON_TAPE && isRight && at < length; turn++) {
                isRight = readNextGroup();
            }
            return isRight;
        }

        /** A ; is read as a sign that tells nothing, so that CHAINS need no loop of their own. */
        private boolean readNextGroup() {
            int former = group;
            int how = NEITHER;
            if (skip('<')) {
                how = skip('=') ? NOT_LATER : AHEAD;
            } else if (!skip(';')) {
                return false;
            }
            if (!readGroup()) {
                return false;
            }
            if (how != NEITHER) {
                relate(former, how);
            }
            return true;
        }

        private boolean readGroup() {
            group = 0;
            if (!skip('(')) {
                return readName();
            }
            boolean isRight = readName();
            for (int turn = 0; turn < MOST_ON_TAPE && isRight && skip(','); turn++) {
                isRight = readName();
            }
            return isRight && skip(')');
        }

        private boolean readName() {
            int i = at < length ? bytes[at] - 'a' : -1;
            if (i < 0 || i >= findCount) {
                return false;
            }
            group |= 1 << i;
            at++;
            return true;
        }

        private boolean skip(char sign) {
            if (at >= length || bytes[at] != sign) {
                return false;
            }
            at++;
            return true;
        }

        private void relate(int former, int how) {
            for (int i = 0; i < findCount; i++) {
                for (int k = 0; k < findCount; k++) {
                    if (i != k && (former >> i & 1) != 0 && (group >> k & 1) != 0) {
                        told.put(i, k, how);
                    }
                }
            }
        }
    }

    /** What is to be counted: a telling's WEIGHTS and PAIRS, and the years to which finds are held. */
    static final class Weighing {
        private int yearCount = 0;
        private int findCount = 0;
        private int members = 0;
        private final long[] weights = new long[MOST_FINDS * MOST_YEARS];
        private final int[] from = new int[MOST_FINDS];
        private final int[] to = new int[MOST_FINDS];
        private final Pairs pairs = new Pairs();

        void load(Telling telling) {
            yearCount = telling.yearCount;
            findCount = telling.findCount;
            members = (1 << findCount) - 1;
            pairs.copyFrom(telling.pairs);
            for (int i = 0; i < findCount; i++) {
                Find f = telling.finds[i];
                int meanOfF = telling.meanPlain(f);
                for (int year = 0; year < yearCount; year++) {
                    weights[i * MOST_YEARS + year] = f.weightFrom(telling.plainAt(f, year), meanOfF);
                }
                limit(i, 0, yearCount - 1);
            }
        }

        void limit(int i, int first, int last) {
            from[i] = first;
            to[i] = last;
        }

        void leaveOut(int i) {
            members &= ~(1 << i);
            pairs.forget(i);
        }

        void level(int i, long w) {
            for (int year = 0; year < yearCount; year++) {
                weights[i * MOST_YEARS + year] = w;
            }
        }

        void multiplyByYears(int i) {
            for (int year = 0; year < yearCount; year++) {
                weights[i * MOST_YEARS + year] *= year;
            }
        }

        boolean isMember(int i) {
            return (members >> i & 1) != 0;
        }

        long weightAt(int i, int year) {
            return year < from[i] || year > to[i] ? 0 : weights[i * MOST_YEARS + year];
        }

        /** One sum of 0 makes the product 0, however great the others are; so all are looked at. */
        boolean isBig() {
            long product = 1;
            boolean isAbove = false;
            for (int i = 0; i < findCount; i++) {
                if (!isMember(i)) {
                    continue;
                }
                long sum = sumOfWeights(i);
                if (sum == 0) {
                    return false;
                }
                if (isAbove || product > BIG_ABOVE / sum) {
                    isAbove = true;
                } else {
                    product *= sum;
                }
            }
            return isAbove;
        }

        private long sumOfWeights(int i) {
            long sum = 0;
            for (int year = 0; year < yearCount; year++) {
                sum += weights[i * MOST_YEARS + year];
            }
            return sum;
        }
    }

    /**
     * Counts GIVINGS year by year. For each set of finds it holds what all ways COUNT to have just
     * these in the years gone by. Within a year finds are placed one by one, those that others are
     * AHEAD of first: whoever is AHEAD is then in the set only if an earlier year placed it. NOT
     * LATER holds if at the end of each year no find is in the set without those NOT LATER than it.
     */
    static final class Counter {
        private final Weighing weighing;
        private final int[] ranks = new int[MOST_FINDS];
        private int rankCount = 0;
        private final int[] firstYear = new int[MOST_FINDS];
        private final int[] lastYear = new int[MOST_FINDS];
        /** By year, the finds that can have been placed, and those that must have been. */
        private final int[] begun = new int[MOST_YEARS];
        private final int[] ended = new int[MOST_YEARS];
        private final int[] openSets = new int[SETS_OF_FINDS];
        private int openCount = 0;
        private final long[] reached = new long[SETS_OF_FINDS];
        private final long[] toCome = new long[SETS_OF_FINDS];
        private final long[] reachedBefore = new long[MOST_YEARS * SETS_OF_FINDS];
        private final long[] perYear = new long[MOST_YEARS];

        Counter(Weighing weighing) {
            this.weighing = weighing;
        }

        /** What all GIVINGS COUNT within the limits of the weighing. */
        long countAll() {
            if (!prepare()) {
                return 0;
            }
            Arrays.fill(reached, 0);
            reached[0] = 1;
            for (int year = 0; year < weighing.yearCount; year++) {
                goForward(year, -1);
            }
            return reached[weighing.members];
        }

        /** The same, apart by the year of a find, in perYear: ways up to each year meet ways on from it. */
        void countEachYear(int i) {
            Arrays.fill(perYear, 0);
            if (!prepare()) {
                return;
            }
            Arrays.fill(reached, 0);
            reached[0] = 1;
            for (int year = 0; year < weighing.yearCount; year++) {
                goForward(year, i);
            }
            Arrays.fill(toCome, 0);
            toCome[weighing.members] = 1;
            for (int year = weighing.yearCount - 1; year >= 0; year--) {
                goBackward(year, i);
            }
        }

        /** False if it is plain that there is nothing to count. */
        private boolean prepare() {
            if (!findYearsThatWeigh() || !rankFinds()) {
                return false;
            }
            for (int year = 0; year < weighing.yearCount; year++) {
                begun[year] = 0;
                ended[year] = 0;
                for (int r = 0; r < rankCount; r++) {
                    int i = ranks[r];
                    begun[year] |= firstYear[i] <= year ? 1 << i : 0;
                    ended[year] |= lastYear[i] < year ? 1 << i : 0;
                }
            }
            listOpenSets();
            return true;
        }

        private boolean findYearsThatWeigh() {
            for (int i = 0; i < weighing.findCount; i++) {
                firstYear[i] = MOST_YEARS;
                lastYear[i] = -1;
                for (int year = 0; year < weighing.yearCount; year++) {
                    if (weighing.weightAt(i, year) != 0) {
                        firstYear[i] = Math.min(firstYear[i], year);
                        lastYear[i] = year;
                    }
                }
                if (weighing.isMember(i) && lastYear[i] < 0) {
                    return false;
                }
            }
            return true;
        }

        /** Ranks whoever is AHEAD of others before them; false if some are AHEAD of one another in a ring. */
        private boolean rankFinds() {
            int ranked = 0;
            rankCount = 0;
            for (int round = 0; round < MOST_FINDS && ranked != weighing.members; round++) {
                int before = ranked;
                for (int i = 0; i < weighing.findCount; i++) {
                    boolean isDue = weighing.isMember(i) && (ranked >> i & 1) == 0;
                    if (isDue && (weighing.pairs.ahead[i] & ~ranked) == 0) {
                        ranks[rankCount] = i;
                        rankCount++;
                        ranked |= 1 << i;
                    }
                }
                if (ranked == before) {
                    return false;
                }
            }
            return ranked == weighing.members;
        }

        /** The sets in which a find is without one that is NOT LATER: no year may end with them. */
        private void listOpenSets() {
            openCount = 0;
            for (int set = 0; set <= weighing.members; set++) {
                int needed = 0;
                for (int r = 0; r < rankCount; r++) {
                    int i = ranks[r];
                    needed |= (set >> i & 1) != 0 ? weighing.pairs.notLater[i] : 0;
                }
                if ((needed & ~set) != 0) {
                    openSets[openCount] = set;
                    openCount++;
                }
            }
        }

        private void goForward(int year, int watched) {
            for (int r = rankCount - 1; r >= 0; r--) {
                int i = ranks[r];
                if (weighing.weightAt(i, year) == 0) {
                    continue;
                }
                if (i == watched) {
                    System.arraycopy(reached, 0, reachedBefore, year * SETS_OF_FINDS, SETS_OF_FINDS);
                }
                place(i, year);
            }
            clearOpenSets(reached);
        }

        private void goBackward(int year, int watched) {
            clearOpenSets(toCome);
            for (int r = 0; r < rankCount; r++) {
                int i = ranks[r];
                if (weighing.weightAt(i, year) == 0) {
                    continue;
                }
                if (i == watched) {
                    perYear[year] = meet(i, year);
                }
                takeUp(i, year);
            }
        }

        private void clearOpenSets(long[] row) {
            for (int o = 0; o < openCount; o++) {
                row[openSets[o]] = 0;
            }
        }

        /** Those that must be in the set already when a year places a find. */
        private int leastBefore(int i, int year) {
            return ended[year] | weighing.pairs.ahead[i];
        }

        private void place(int i, int year) {
            int least = leastBefore(i, year);
            int others = begun[year] & ~least & ~(1 << i);
            long w = weighing.weightAt(i, year);
            int more = 0;
            for (int turn = 0; turn < SETS_OF_FINDS; turn++) {
                int set = least | more;
                reached[set | 1 << i] += reached[set] * w;
                more = nextSubset(more, others);
                if (more == 0) {
                    break;
                }
            }
        }

        private void takeUp(int i, int year) {
            int least = leastBefore(i, year);
            int others = begun[year] & ~least & ~(1 << i);
            long w = weighing.weightAt(i, year);
            int more = 0;
            for (int turn = 0; turn < SETS_OF_FINDS; turn++) {
                int set = least | more;
                toCome[set] += toCome[set | 1 << i] * w;
                more = nextSubset(more, others);
                if (more == 0) {
                    break;
                }
            }
        }

        private long meet(int i, int year) {
            int least = leastBefore(i, year);
            int others = begun[year] & ~least & ~(1 << i);
            long w = weighing.weightAt(i, year);
            long sum = 0;
            int more = 0;
            for (int turn = 0; turn < SETS_OF_FINDS; turn++) {
                int set = least | more;
                sum += reachedBefore[year * SETS_OF_FINDS + set] * w * toCome[set | 1 << i];
                more = nextSubset(more, others);
                if (more == 0) {
                    break;
                }
            }
            return sum;
        }

        /** The subset of a set that comes next in the order of numbers; behind the last one, the empty one. */
        private static int nextSubset(int subset, int set) {
            return (subset - set) & set;
        }
    }
}
