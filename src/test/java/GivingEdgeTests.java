/** The boundary cases that Terms 2, its last sentence, and promises 29 to 32 name. */
public final class GivingEdgeTests extends Tables {
    public static void main(String[] args) {
        numbersFromNoneOn();
        numbersWithoutFinds();
        numbersOfThoseThatCountMore();
        numbersOfTheLargestTable();
        drawFindings();
        theDrawnStays();
        drawnBeforeAny();
        drawnOfNoSuchFind();
        drawnBehindAFind();
        drawnBehindADrop();
        drawnBehindBack();
        drawnBehindRefusedCalls();
        drawnBehindOtherChanges();
        theTwentyFirstNumber();
        anyNumberWaits();
        numberOfWrongLength();
        numberOfNoYears();
        numberOfNoGiving();
        numberThatCountsZero();
        numberFindings();
        noneWaitThen();
        due.end();
    }

    /** In 2 YEARS a FIND that weighs 9 and 7, and a BORDER: its GIVINGS COUNT 9, 9, 7 and 7. */
    private static DatingTable ofThirtyTwo() {
        DatingTable x = new DatingTable();
        x.years(2);
        x.curve(0, 450);
        x.curve(1, 452);
        x.find(0, 450);
        x.find(2, 0);
        return x;
    }

    private static void numbersFromNoneOn() {
        DatingTable x = ofThirtyTwo();
        due.is("29: below the first NUMBER", x.draw(-1), BAD);
        long[] numbers = {0, 8, 9, 17, 18, 24, 25, 31};
        for (int at = 0; at < numbers.length; at++) {
            int giving = at / 2;
            due.is("29: what NUMBER " + numbers[at] + " COUNTS", x.draw(numbers[at]), giving < 2 ? 9 : 7);
            due.is("30: the FIND of NUMBER " + numbers[at], x.drawn(0), giving / 2);
            due.is("30: the BORDER of NUMBER " + numbers[at], x.drawn(1), giving % 2);
            due.is("32: the first NUMBER of the same", numberOf(x, giving / 2, giving % 2), numbers[2 * giving]);
        }
        due.is("29: behind the last NUMBER", x.draw(32), NONE);
        due.is("29: the least number", x.draw(Long.MIN_VALUE), BAD);
        due.is("29: the greatest number", x.draw(Long.MAX_VALUE), NONE);
    }

    private static void numbersWithoutFinds() {
        DatingTable x = new DatingTable();
        due.is("29: -1 without finds", x.draw(-1), BAD);
        due.is("29: 1 without finds", x.draw(1), NONE);
        due.is("30: none was drawn", x.drawn(0), NOTHING);
        due.is("29: 0 without finds", x.draw(0), 1);
        due.is("30: one was drawn, but there is no such find", x.drawn(0), BAD);
        due.is("32: none wait, without finds", x.number(), 0);
        due.is("32: one waits, without finds", numberOf(x, 0), BAD);
        due.is("32: none wait again", x.number(), 0);
    }

    private static void numbersOfThoseThatCountMore() {
        DatingTable x = new DatingTable();
        x.years(3);
        x.curve(0, 450);
        x.curve(1, 2000);
        x.curve(2, 457);
        x.find(0, 450);
        x.find(2, 0);
        x.pair(1, 0, 1);
        // Of a weight of 9, 0 and 2 only year 2 has a BORDER ahead of it, in 0 or 1.
        due.is("18: what all COUNT", x.total(), 4);
        for (int n = 0; n < 4; n++) {
            due.is("29: NUMBER " + n, x.draw(n), 2);
            due.is("30: the FIND of NUMBER " + n, x.drawn(0), 2);
            due.is("30: the BORDER of NUMBER " + n, x.drawn(1), n / 2);
        }
        due.is("29: behind them", x.draw(4), NONE);
    }

    private static void numbersOfTheLargestTable() {
        DatingTable x = withBorders(7, 40);
        due.is("29: the first NUMBER of 7 finds", x.draw(0), 1);
        for (int i = 0; i < 7; i++) {
            due.is("30: all are of year 0", x.drawn(i), 0);
        }
        due.is("29: the last NUMBER of 7 finds", x.draw(163839999999L), 1);
        for (int i = 0; i < 7; i++) {
            due.is("30: all are of year 39", x.drawn(i), 39);
        }
        due.is("29: behind the last NUMBER of 7 finds", x.draw(163840000000L), NONE);
        due.is("32: the last GIVING", numberOf(x, 39, 39, 39, 39, 39, 39, 39), 163839999999L);
        due.is("32: by the year of find 0 first", numberOf(x, 1, 0, 0, 0, 0, 0, 0), 4096000000L);
        due.is("32: by that of the last find last", numberOf(x, 0, 0, 0, 0, 0, 0, 1), 1);
    }

    private static void drawFindings() {
        due.is("29: BIG", tooBig().draw(0), BIG);
        due.is("29: BAD ahead of BIG", tooBig().draw(-1), BAD);
        due.is("29: BIG ahead of NONE", tooBig().draw(Long.MAX_VALUE), BIG);
        due.is("29: BIG ahead of NONE, there are no GIVINGS", tooBigAndImpossible().draw(0), BIG);
        due.is("29: NONE, there are no GIVINGS", impossible().draw(0), NONE);
        due.is("29: BAD ahead of NONE", impossible().draw(-1), BAD);
        DatingTable x = impossible();
        x.draw(0);
        due.is("30: none was drawn by a call that answers NONE", x.drawn(0), NOTHING);
        DatingTable y = tooBig();
        y.draw(0);
        due.is("30: none was drawn by a call that answers BIG", y.drawn(0), NOTHING);
        DatingTable z = withBorders(1, 5);
        z.draw(-1);
        due.is("30: none was drawn by a call that answers BAD", z.drawn(0), NOTHING);
    }

    private static void theDrawnStays() {
        DatingTable x = ofThirtyTwo();
        x.draw(18);
        x.draw(-1);
        due.is("29: behind BAD, the FIND", x.drawn(0), 1);
        x.draw(32);
        due.is("29: behind NONE, the FIND", x.drawn(0), 1);
        due.is("29: behind NONE, the BORDER", x.drawn(1), 0);
        x.curve(0, 2000);
        x.curve(1, 2000);
        due.is("29: THE TOTAL is 0", x.draw(0), NONE);
        due.is("29: behind that, the FIND", x.drawn(0), 1);
    }

    private static void drawnBeforeAny() {
        DatingTable x = withBorders(2, 5);
        due.is("30: none was", x.drawn(0), NOTHING);
        due.is("30: NOTHING ahead of BAD: find 2 of 2", x.drawn(2), NOTHING);
        due.is("30: NOTHING ahead of BAD: find -1", x.drawn(-1), NOTHING);
        due.is("30: NOTHING is one of the host", x.count(4), 3);
    }

    private static void drawnOfNoSuchFind() {
        DatingTable x = withBorders(2, 5);
        x.draw(24);
        due.is("30: the first find", x.drawn(0), 4);
        due.is("30: the last find", x.drawn(1), 4);
        for (int i : new int[] {2, -1, LEAST, MOST}) {
            due.is("30: find " + i, x.drawn(i), BAD);
        }
        due.is("30: BAD is none of the host", x.count(4), 0);
    }

    private static void drawnBehindAFind() {
        DatingTable x = withBorders(2, 5);
        x.draw(24);
        x.find(2, 0);
        due.is("30: a find came", x.drawn(0), NOTHING);
        due.is("30: a find came, NOTHING ahead of BAD", x.drawn(3), NOTHING);
        x.drop();
        due.is("30: a find came and went", x.drawn(0), NOTHING);
        x.draw(0);
        due.is("30: drawn anew", x.drawn(1), 0);
    }

    private static void drawnBehindADrop() {
        DatingTable x = withBorders(2, 5);
        x.draw(24);
        x.drop();
        due.is("30: a find went", x.drawn(0), NOTHING);
        x.find(2, 0);
        due.is("30: a find went and another one came", x.drawn(0), NOTHING);
    }

    private static void drawnBehindBack() {
        DatingTable x = withBorders(2, 5);
        x.draw(24);
        x.keep();
        due.is("30: keep() leaves it", x.drawn(0), 4);
        x.back();
        due.is("30: back() was done", x.drawn(0), NOTHING);
        x.draw(24);
        due.is("30: drawn anew", x.drawn(0), 4);
        x.back();
        due.is("30: back() was done again", x.drawn(0), NOTHING);
    }

    private static void drawnBehindRefusedCalls() {
        DatingTable x = withBorders(7, 5);
        x.draw(0);
        due.is("9: an eighth find", x.find(2, 0), BAD);
        due.is("9: of no KIND", x.find(4, 0), BAD);
        due.is("34: nothing is kept", x.back(), NOTHING);
        due.is("30: no find came, and back() was not done", x.drawn(6), 0);
        DatingTable y = new DatingTable();
        y.draw(0);
        due.is("15: there is none", y.drop(), NOTHING);
        due.is("30: no find went", y.drawn(0), BAD);
    }

    private static void drawnBehindOtherChanges() {
        DatingTable x = withBorders(2, 5);
        x.draw(24);
        x.years(2);
        x.curve(4, 0);
        x.miss(0, 0);
        x.pair(0, 1, 1);
        x.odd(0, 3);
        read(x, "b<a");
        x.total();
        x.share(0, 0);
        x.best(0);
        numberOf(x, 1, 0);
        due.is("30: the year of the first find", x.drawn(0), 4);
        due.is("30: the year of the second", x.drawn(1), 4);
    }

    private static void theTwentyFirstNumber() {
        DatingTable x = new DatingTable();
        for (int n = 1; n <= 20; n++) {
            due.is("31: number " + n, x.tell(n), n);
        }
        due.is("31: 20 wait", x.tell(21), BAD);
        due.is("31: 20 wait still", x.tell(LEAST), BAD);
        due.is("31, 36: as many as before", x.count(3), 20);
        due.is("31: BAD is none of the host", x.count(4), 0);
        x.number();
        for (int n = 1; n <= 20; n++) {
            due.is("31: number " + n + " behind number()", x.tell(n), n);
        }
        due.is("31: 20 wait again", x.tell(21), BAD);
    }

    private static void anyNumberWaits() {
        DatingTable x = withBorders(2, 5);
        int[] any = {LEAST, MOST, -1, 40};
        for (int at = 0; at < any.length; at++) {
            due.is("31: " + any[at] + " waits", x.tell(any[at]), at + 1);
        }
    }

    private static void numberOfWrongLength() {
        DatingTable x = ofThirtyTwo();
        due.is("32: none wait", x.number(), BAD);
        due.is("32: too few", numberOf(x, 0), BAD);
        due.is("32: too many", numberOf(x, 0, 0, 0), BAD);
        due.is("32: 20, too many", numberOf(x, new int[20]), BAD);
        due.is("32: just as many", numberOf(x, 1, 1), 25);
        due.is("32: too many, the last is no year", numberOf(x, 1, 1, LEAST), BAD);
        due.is("32: just as many, what waited before is gone", numberOf(x, 1, 1), 25);
        due.is("32: too few, ahead of NONE", numberOf(impossible(), 0), BAD);
        due.is("32: too many, ahead of BIG", numberOf(tooBig(), new int[8]), BAD);
        due.is("32: none wait, ahead of BIG", tooBig().number(), BAD);
    }

    private static void numberOfNoYears() {
        DatingTable x = ofThirtyTwo();
        for (int year : new int[] {2, 39, 40, -1, LEAST, MOST}) {
            due.is("32: the first is " + year, numberOf(x, year, 0), BAD);
            due.is("32: the last is " + year, numberOf(x, 0, year), BAD);
        }
        due.is("32: the first of the YEARS", numberOf(x, 0, 0), 0);
        due.is("32: the last of the YEARS", numberOf(x, 1, 1), 25);
        due.is("32: no year, ahead of NONE", numberOf(impossible(), 0, 5), BAD);
        due.is("32: no year, ahead of BIG", numberOf(tooBig(), 30, 0, 0, 0, 0, 0, 0), BAD);
        due.is("36: BAD is none of the host", x.count(4), 0);
    }

    private static void numberOfNoGiving() {
        DatingTable x = withBorders(2, 5);
        x.pair(0, 1, 1);
        due.is("32: a lesser year", numberOf(x, 0, 1), 0);
        due.is("32: the same year of one that is AHEAD", numberOf(x, 1, 1), NONE);
        due.is("32: a greater year", numberOf(x, 2, 1), NONE);
        due.is("32: the last GIVING", numberOf(x, 3, 4), 9);
        x.pair(0, 1, 2);
        due.is("32: the same year of one that is NOT LATER", numberOf(x, 1, 1), 5);
        due.is("32: a greater year of one that is NOT LATER", numberOf(x, 2, 1), NONE);
        due.is("32: the last of these GIVINGS", numberOf(x, 4, 4), 14);
        due.is("36: NONE is none of the host", x.count(4), 0);
    }

    private static void numberThatCountsZero() {
        DatingTable x = new DatingTable();
        x.years(3);
        x.curve(0, 2000);
        x.curve(1, 450);
        x.curve(2, 2000);
        x.find(2, 0);
        x.find(0, 450);
        due.is("32: COUNTS 0, ahead of all", numberOf(x, 0, 0), NONE);
        due.is("32: the first that COUNTS more", numberOf(x, 0, 1), 0);
        due.is("32: COUNTS 0, in the midst", numberOf(x, 1, 0), NONE);
        due.is("32: the last that COUNTS more", numberOf(x, 2, 1), 18);
        due.is("32: COUNTS 0, behind all", numberOf(x, 2, 2), NONE);
    }

    private static void numberFindings() {
        int[] years = {9, 9, 9, 9, 9, 9, 9};
        due.is("32: BIG", numberOf(tooBig(), years), BIG);
        due.is("32: BIG ahead of NONE", numberOf(tooBigAndImpossible(), years), BIG);
        due.is("32: NONE, there are no GIVINGS", numberOf(impossible(), 0, 1), NONE);
    }

    private static void noneWaitThen() {
        DatingTable x = ofThirtyTwo();
        due.is("32: a NUMBER", numberOf(x, 0, 1), 9);
        due.is("32: none wait behind a NUMBER", x.count(3), 0);
        numberOf(x, 0);
        due.is("32: none wait behind BAD, too few", x.count(3), 0);
        numberOf(x, 0, 0, 0);
        due.is("32: none wait behind BAD, too many", x.count(3), 0);
        numberOf(x, 0, 2);
        due.is("32: none wait behind BAD, no year", x.count(3), 0);
        x.pair(0, 1, 1);
        numberOf(x, 1, 0);
        due.is("32: none wait behind NONE", x.count(3), 0);
        due.is("32: those that come then count alone", numberOf(x, 0, 1), 0);
        DatingTable y = tooBig();
        numberOf(y, 0, 0, 0, 0, 0, 0, 0);
        due.is("32: none wait behind BIG", y.count(3), 0);
        due.is("31: the next one is the first", y.tell(0), 1);
    }
}
