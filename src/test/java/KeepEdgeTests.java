/** The boundary cases that promises 1 and 33 to 36 name. */
public final class KeepEdgeTests extends Tables {
    public static void main(String[] args) {
        aNewObjectIsLikeNoOther();
        nothingIsKept();
        keptWithoutFinds();
        keptTwice();
        backTwice();
        whatIsKept();
        whatIsKeptStays();
        allAgesAreKept();
        fewerFindsComeBack();
        moreFindsComeBack();
        whatIsNotKept();
        findingsAreNotTakenBack();
        bearsNothing();
        bearsBig();
        bearsNone();
        bearsOfZeroAndOfOne();
        bearsByAllThatIsKept();
        bearsChangesNothing();
        countOfEach();
        countBeyond();
        countOfTheHost();
        countOfNoneOfTheHost();
        due.end();
    }

    private static void aNewObjectIsLikeNoOther() {
        DatingTable x = withBorders(7, 1);
        x.curve(0, 0);
        x.miss(0, 0);
        x.sheet(0, 0, 1);
        x.feed(0x61, 1);
        x.tell(1);
        x.keep();
        x.draw(0);
        x.mean(0);
        x.write(1, 0, 0);
        DatingTable y = new DatingTable();
        due.is("1: 30 YEARS", y.count(1), 30);
        due.is("1: no finds", y.count(0), 0);
        due.is("1: no PAIRS", y.count(2), 0);
        due.is("1: none wait", y.count(3), 0);
        due.is("1: no findings", y.count(4), 0);
        due.is("1: THE CURVE as told", y.curve(0, 1), 500);
        due.is("1: THE CURVE of the last year as told", y.curve(39, 1), 305);
        due.is("1: MISSES as told", y.miss(0, 1), 9);
        due.is("1: all SHEETS MISSING", y.lose(0), 0);
        due.is("1: an empty tape", y.feed(0x61, 1), 1);
        due.is("1: below() is 1", y.below(), 1);
        due.is("1: none was drawn", y.drawn(0), NOTHING);
        due.is("1: nothing is kept", y.back(), NOTHING);
    }

    private static void nothingIsKept() {
        DatingTable x = withBorders(2, 5);
        due.is("34: nothing is kept", x.back(), NOTHING);
        due.is("35: nothing is kept", x.bears(), NOTHING);
        due.is("34, 35: NOTHING is one of the host", x.count(4), 2);
        due.is("34: it is as it was", x.count(0), 2);
        due.is("33: keep()", x.keep(), 2);
        due.is("34: it is kept", x.back(), 2);
        due.fraction("35: it is kept", x, x.bears(), 1, 1);
        due.is("36: none of the host then", x.count(4), 2);
    }

    private static void keptWithoutFinds() {
        DatingTable x = new DatingTable();
        due.is("33: without finds", x.keep(), 0);
        due.fraction("35: without finds", x, x.bears(), 1, 1);
        x.find(2, 0);
        x.find(2, 0);
        x.pair(0, 1, 1);
        due.fraction("35: by a table without finds", x, x.bears(), 435, 1);
        due.is("34: without finds", x.back(), 0);
        due.is("34: there are none", x.drop(), NOTHING);
        due.is("34: nor PAIRS", x.count(2), 0);
    }

    private static void keptTwice() {
        DatingTable x = withBorders(3, 5);
        due.is("33: kept", x.keep(), 3);
        x.drop();
        x.drop();
        x.years(4);
        due.is("33: kept in place of what was", x.keep(), 1);
        x.find(2, 0);
        x.years(9);
        due.is("34: the latest that was kept", x.back(), 1);
        due.is("34: its YEARS", x.count(1), 4);
        due.fraction("35: the latest that was kept", x, x.bears(), 1, 1);
    }

    private static void backTwice() {
        DatingTable x = withBorders(2, 5);
        x.keep();
        x.drop();
        due.is("34: back()", x.back(), 2);
        x.years(7);
        x.find(2, 0);
        due.is("34: back() again, still kept", x.back(), 2);
        due.is("34: its YEARS again", x.count(1), 5);
        due.is("34: back() at once again", x.back(), 2);
        due.fraction("35: still kept", x, x.bears(), 1, 1);
        due.is("36: no finding", x.count(4), 0);
    }

    /** FIND, RINGS, BORDER and KNOWN, with all that can be told of them. */
    private static DatingTable ofAllKinds() {
        DatingTable x = new DatingTable();
        x.years(20);
        x.curve(0, 77);
        x.curve(39, 78);
        x.miss(0, 8);
        x.miss(20, 1);
        x.find(0, 450);
        x.find(1, 450);
        x.ring(1, 445, 1);
        x.ring(1, 440, 2);
        x.find(2, 0);
        x.find(3, 7);
        x.odd(2, 9);
        x.pair(0, 2, 1);
        x.pair(3, 2, 2);
        return x;
    }

    private static void changeAll(DatingTable x) {
        x.years(3);
        x.curve(0, 1);
        x.curve(39, 2);
        x.miss(0, 3);
        x.miss(20, 4);
        x.odd(0, 5);
        x.odd(2, 0);
        x.ring(1, 0, 0);
        x.pair(0, 2, 0);
        x.pair(3, 2, 1);
        x.pair(2, 3, 1);
        for (int i = 0; i < 4; i++) {
            x.drop();
        }
        // RINGS where another KIND was, with other AGES and GAPS.
        for (int i = 0; i < 5; i++) {
            x.find(1, 600 + i);
            x.ring(i, 601, 3);
            x.ring(i, 602, 4);
            x.odd(i, 1);
        }
        x.pair(1, 0, 1);
    }

    private static void isOfAllKinds(String at, DatingTable x) {
        due.is(at + "YEARS", x.count(1), 20);
        due.is(at + "PAIRS", x.count(2), 2);
        int[][] of = {{0, 450, 0, 1}, {1, 450, 0, 3}, {2, 0, 9, 0}, {3, 7, 0, 0}};
        for (int i = 0; i < 4; i++) {
            for (int what = 0; what < 4; what++) {
                due.is(at + "of(" + i + ", " + what + ")", x.of(i, what), of[i][what]);
            }
        }
        due.is(at + "THE CURVE", x.curve(0, 77), 77);
        due.is(at + "THE CURVE of the last year", x.curve(39, 78), 78);
        due.is(at + "the MISS of 0", x.miss(0, 8), 8);
        due.is(at + "the MISS of 20", x.miss(20, 1), 1);
        due.is(at + "the AGES and GAPS", x.weight(1, 10), 512);
        due.is(at + "AHEAD", x.pair(0, 2, 1), 1);
        due.is(at + "NOT LATER", x.pair(3, 2, 2), 2);
        due.is(at + "the other way", x.pair(2, 3, 0), 0);
        due.is(at + "how many finds", x.count(0), 4);
    }

    private static void whatIsKept() {
        DatingTable x = ofAllKinds();
        due.is("33: how many finds", x.keep(), 4);
        changeAll(x);
        due.is("34: how many finds", x.back(), 4);
        isOfAllKinds("33, 34: ", x);
    }

    /** Neither what comes behind keep() nor what comes behind back() reaches what is kept. */
    private static void whatIsKeptStays() {
        DatingTable x = ofAllKinds();
        x.keep();
        isOfAllKinds("33: keep() itself changes nothing, ", x);
        x.back();
        changeAll(x);
        x.back();
        isOfAllKinds("34: still kept, ", x);
    }

    /** RINGS of 5 AGES in 5 years: none of them and of their GAPS can be another one. */
    private static void allAgesAreKept() {
        DatingTable x = new DatingTable();
        int[] ages = {100, 300, 500, 700, 900};
        for (int i = 0; i < 7; i++) {
            x.find(1, 100);
            for (int a = 1; a < 5; a++) {
                x.ring(i, ages[a] - a, 2 * a);
            }
        }
        for (int a = 0; a < 5; a++) {
            x.curve(7 + 2 * a, ages[a]);
        }
        x.keep();
        for (int i = 0; i < 7; i++) {
            x.drop();
        }
        for (int i = 0; i < 7; i++) {
            x.find(1, 1000);
            for (int a = 1; a < 5; a++) {
                x.ring(i, 1000, 39);
            }
        }
        x.back();
        for (int i = 0; i < 7; i++) {
            due.is("33, 34: the 5 AGES and GAPS of find " + i, x.weight(i, 7), 9 * 8 * 7 * 6 * 5);
            due.is("33, 34: in one year alone, find " + i, x.of(i, 5), 1);
        }
    }

    private static void fewerFindsComeBack() {
        DatingTable x = withBorders(1, 5);
        x.keep();
        x.find(1, 480);
        x.ring(1, 475, 1);
        x.odd(1, 4);
        x.pair(0, 1, 1);
        x.pair(1, 0, 2);
        due.is("34: fewer finds", x.back(), 1);
        due.is("34: find 1 is no more", x.of(1, 0), BAD);
        due.is("34: nor its PAIRS", x.count(2), 0);
        due.is("34: a new find 1", x.find(1, 480), 1);
        due.is("34: has no PAIRS", x.count(2), 0);
        due.is("34: is not ODD", x.of(1, 2), 0);
        due.is("34: has one AGE", x.of(1, 3), 1);
    }

    private static void moreFindsComeBack() {
        DatingTable x = withBorders(6, 5);
        x.find(3, 4);
        x.odd(6, 2);
        x.pair(5, 6, 1);
        due.is("33: 7 finds", x.keep(), 7);
        for (int left = 6; left >= 0; left--) {
            x.drop();
        }
        due.is("34: 7 finds come back", x.back(), 7);
        due.is("34: the last one is KNOWN", x.of(6, 0), 3);
        due.is("34: its year", x.of(6, 1), 4);
        due.is("34: by what it is ODD", x.of(6, 2), 2);
        due.is("34: its PAIR", x.pair(5, 6, 1), 1);
        due.is("34: there is no room for another one", x.find(2, 0), BAD);
    }

    private static void whatIsNotKept() {
        DatingTable x = withBorders(1, 5);
        x.sheet(0, 3, 2);
        x.sheet(1, 0, 2);
        x.write(0, 0, 11);
        feed(x, "a");
        x.tell(3);
        x.keep();
        x.write(0, 0, 12);
        x.lose(1);
        x.sheet(2, 2, 1);
        feed(x, ";");
        x.tell(4);
        x.back();
        due.is("33: a SHEET's number is not kept", x.write(0, 0, 0), 12);
        due.is("33: a SHEET that was lost stays MISSING", x.lose(1), 0);
        due.is("33: a SHEET that came is there", x.lose(2), 1);
        due.is("33: numbers that wait are not kept", x.count(3), 2);
        due.is("33: the tape is not kept", x.feed(0x61, 1), 3);
        due.is("17: it is a;a", x.text(), 0);
        feed(x, "a");
        x.keep();
        x.text();
        x.number();
        x.back();
        due.is("34: the tape is empty still", x.feed(0x61, 1), 1);
        due.is("34: none wait still", x.count(3), 0);
    }

    private static void findingsAreNotTakenBack() {
        DatingTable x = withBorders(1, 5);
        x.keep();
        x.drawn(0);
        x.back();
        due.is("36: findings of the host ever", x.count(4), 1);
        x.share(0, 0);
        x.back();
        due.is("20: the latest SHARE that was answered", x.below(), 5);
    }

    private static void bearsNothing() {
        due.is("35: NOTHING ahead of BIG", tooBig().bears(), NOTHING);
        due.is("35: NOTHING where THE TOTAL is 0", impossible().bears(), NOTHING);
        DatingTable x = withBorders(1, 5);
        x.share(0, 0);
        due.is("35: nothing is kept", x.bears(), NOTHING);
        due.is("20: below() is as it was", x.below(), 5);
    }

    private static void bearsBig() {
        DatingTable x = tooBig();
        x.keep();
        due.is("35: both are BIG", x.bears(), BIG);
        x.years(1);
        due.is("18: it is BIG no more", x.total(), 0);
        due.is("35: what is kept is BIG", x.bears(), BIG);
        DatingTable y = tooBig();
        y.years(1);
        y.keep();
        y.years(30);
        due.is("35: it is BIG, and ahead of NONE", y.bears(), BIG);
        DatingTable z = new DatingTable();
        z.keep();
        for (int i = 0; i < 7; i++) {
            z.find(1, 450);
            z.ring(i, 445, 1);
            z.odd(i, 9);
        }
        due.is("35: it is BIG, what is kept is 1", z.bears(), BIG);
        due.is("36: BIG is none of the host", z.count(4), 0);
    }

    private static void bearsNone() {
        DatingTable x = impossible();
        x.keep();
        due.is("35: 0 by 0", x.bears(), NONE);
        x.pair(0, 1, 0);
        due.is("35: that of what is kept is 0", x.bears(), NONE);
        due.is("36: NONE is none of the host", x.count(4), 0);
        x.keep();
        due.fraction("35: it is 0 no more", x, x.bears(), 1, 1);
    }

    private static void bearsOfZeroAndOfOne() {
        DatingTable x = withBorders(2, 5);
        x.keep();
        x.share(0, 0);
        due.fraction("35: the same", x, x.bears(), 1, 1);
        x.share(0, 0);
        x.pair(0, 1, 1);
        due.fraction("35: 10 by 25", x, x.bears(), 2, 5);
        x.pair(1, 0, 1);
        due.fraction("35: 0 by 25", x, x.bears(), 0, 1);
        x.back();
        x.years(40);
        due.fraction("35: 1600 by 25", x, x.bears(), 64, 1);
    }

    /** What is kept is weighed as it was kept: each of its parts changes THE TOTAL. */
    private static void bearsByAllThatIsKept() {
        DatingTable x = ofAllKinds();
        long kept = x.total();
        x.keep();
        due.fraction("35: by itself", x, x.bears(), 1, 1);
        changeAll(x);
        x.years(1);
        for (int i = 0; i < 5; i++) {
            x.drop();
        }
        due.fraction("35: 1, without finds, by what is kept", x, x.bears(), 1, kept);
    }

    private static void bearsChangesNothing() {
        DatingTable x = ofAllKinds();
        x.keep();
        changeAll(x);
        long total = x.total();
        x.bears();
        due.is("35: THE TOTAL is as it was", x.total(), total);
        due.is("35: the YEARS are as they were", x.count(1), 3);
        x.back();
        isOfAllKinds("35: what is kept is as it was, ", x);
    }

    private static void countOfEach() {
        DatingTable x = new DatingTable();
        int[] atFirst = {0, 30, 0, 0, 0};
        for (int what = 0; what < 5; what++) {
            due.is("36: what " + what + " of a new object", x.count(what), atFirst[what]);
        }
        x.years(40);
        for (int i = 0; i < 7; i++) {
            x.find(2, 0);
        }
        read(x, "(a,b,c,d,e,f,g)<(a,b,c,d,e,f,g)");
        for (int n = 0; n < 20; n++) {
            x.tell(0);
        }
        x.back();
        int[] then = {7, 40, 42, 20, 1};
        for (int what = 0; what < 5; what++) {
            due.is("36: what " + what + " of the fullest one", x.count(what), then[what]);
        }
        x.drop();
        x.number();
        x.years(1);
        int[] last = {6, 1, 30, 0, 1};
        for (int what = 0; what < 5; what++) {
            due.is("36: what " + what + " of fewer", x.count(what), last[what]);
        }
    }

    private static void countBeyond() {
        DatingTable x = new DatingTable();
        for (int what : new int[] {-1, 5, LEAST, MOST}) {
            due.is("36: what " + what, x.count(what), BAD);
        }
        due.is("36: BAD is none of the host", x.count(4), 0);
    }

    private static void countOfTheHost() {
        DatingTable x = withBorders(1, 5);
        int ever = 0;
        x.sheet(0, 0, -1);
        due.is("36: SIZE of sheet()", x.count(4), ++ever);
        x.write(0, 0, 0);
        due.is("36: NOTHING of write()", x.count(4), ++ever);
        x.lay(0, 0, 0, 0, 0);
        due.is("36: NOTHING of lay()", x.count(4), ++ever);
        x.sheet(0, 0, 1);
        x.write(0, 1, 0);
        due.is("36: PLACE of write()", x.count(4), ++ever);
        x.lay(0, 1, 0, 0, 1);
        due.is("36: SORT of lay()", x.count(4), ++ever);
        x.lay(0, 0, 1, 0, 1);
        due.is("36: PLACE of lay()", x.count(4), ++ever);
        x.ring(0, 0, 0);
        due.is("36: SORT of ring()", x.count(4), ++ever);
        x.drawn(0);
        due.is("36: NOTHING of drawn()", x.count(4), ++ever);
        x.back();
        due.is("36: NOTHING of back()", x.count(4), ++ever);
        x.bears();
        due.is("36: NOTHING of bears()", x.count(4), ++ever);
        x.drop();
        x.drop();
        due.is("36: NOTHING of drop()", x.count(4), ++ever);
    }

    private static void countOfNoneOfTheHost() {
        DatingTable x = impossible();
        x.years(0);
        x.sheet(0, 0, 61);
        x.lay(0, 4, 0, 0, 0);
        x.find(4, 0);
        x.feed(0, 9);
        due.is("36: BAD", x.count(4), 0);
        read(x, "?");
        due.is("36: WRONG", x.count(4), 0);
        // The texts -3 less 7 and so on are answered as -10 to -13, and are WRONG all the same.
        for (int at = 7; at <= 10; at++) {
            due.is("17: WRONG at " + at, read(x, "a<b;a<b;a<b".substring(0, at) + "?"), -3 - at);
        }
        due.is("36: WRONG, as low as those of the host", x.count(4), 0);
        x.pair(0, 1, 1);
        x.pair(1, 0, 1);
        x.share(0, 0);
        x.draw(0);
        due.is("36: NONE", x.count(4), 0);
        x.sheet(0, 0, 1);
        for (int v = -13; v <= -10; v++) {
            x.write(0, 0, v);
            due.is("6: what it was", x.write(0, 0, 0), v);
        }
        due.is("36: a number of a SHEET that is as low", x.count(4), 0);
        DatingTable y = tooBig();
        y.total();
        y.share(0, 0);
        due.is("36: BIG", y.count(4), 0);
    }
}
