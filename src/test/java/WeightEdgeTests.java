/** The boundary cases that Terms 1, promises 2 to 4 and promises 9 to 15 name. */
public final class WeightEdgeTests extends Tables {
    private static final int[] OUTSIDE = {-1, LEAST, MOST};

    public static void main(String[] args) {
        yearsAtTheirEnds();
        curveAtItsEnds();
        missAtItsEnds();
        missesAtFirst();
        aDifferenceAboveTwenty();
        findsOfEachKind();
        theEighthFind();
        noFindAtAll();
        aKnownYearThatIsNone();
        ringAtItsEnds();
        theSixthAge();
        ringsOfAnotherKind();
        ringsGapOfNone();
        ringsGapOfThirtyNine();
        ringsPastTheLastYear();
        ringsAreMultiplied();
        oddAtItsEnds();
        weightsOfOdd();
        theMeanIsCut();
        theMeanOfKnownAndBorder();
        pairAtItsEnds();
        pairOfTheSame();
        theOtherWayStays();
        ofAtItsEnds();
        weightAtItsEnds();
        dropWithoutFinds();
        dropTakesPairs();
        madeAnewBehindDrop();
        sevenMadeAnew();
        due.end();
    }

    private static void yearsAtTheirEnds() {
        DatingTable x = withBorders(1, 30);
        due.is("2: n 1, 30 at first", x.years(1), 30);
        due.is("2: year 0 of 1", x.weight(0, 0), 1);
        due.is("2: year 1 of 1", x.weight(0, 1), BAD);
        due.is("2: n 40", x.years(40), 1);
        due.is("2: year 39 of 40", x.weight(0, 39), 1);
        due.is("2: year 40 of 40", x.weight(0, 40), BAD);
        for (int n : new int[] {0, 41, -1, LEAST, MOST}) {
            due.is("2: n " + n, x.years(n), BAD);
            due.is("2: behind n " + n, x.count(1), 40);
        }
    }

    private static void curveAtItsEnds() {
        DatingTable x = new DatingTable();
        x.years(1);
        due.is("3: year 0, age 0", x.curve(0, 0), 500);
        due.is("3: year 0, age 2000", x.curve(0, 2000), 0);
        due.is("3: year 39, none of the YEARS", x.curve(39, 2000), 305);
        due.is("3: year 39, age 0", x.curve(39, 0), 2000);
        due.is("3: year 40", x.curve(40, 1), BAD);
        due.is("3: age 2001", x.curve(0, 2001), BAD);
        for (int v : OUTSIDE) {
            due.is("3: year " + v, x.curve(v, 1), BAD);
            due.is("3: age " + v, x.curve(0, v), BAD);
        }
        due.is("3: year 0 behind BAD", x.curve(0, 7), 2000);
        due.is("3: year 39 behind BAD", x.curve(39, 7), 0);
    }

    private static void missAtItsEnds() {
        DatingTable x = new DatingTable();
        due.is("4: difference 0, number 0", x.miss(0, 0), 9);
        due.is("4: difference 0, number 9", x.miss(0, 9), 0);
        due.is("4: difference 20, number 9", x.miss(20, 9), 0);
        due.is("4: difference 20, number 0", x.miss(20, 0), 9);
        due.is("4: difference 21", x.miss(21, 1), BAD);
        due.is("4: number 10", x.miss(0, 10), BAD);
        for (int v : OUTSIDE) {
            due.is("4: difference " + v, x.miss(v, 1), BAD);
            due.is("4: number " + v, x.miss(0, v), BAD);
        }
        due.is("4: difference 0 behind BAD", x.miss(0, 1), 9);
        due.is("4: difference 20 behind BAD", x.miss(20, 1), 0);
    }

    private static void missesAtFirst() {
        DatingTable x = new DatingTable();
        int[] atFirst = {9, 8, 7, 6, 5, 4, 3, 2, 1, 0, 0, 0, 0, 0, 0, 0, 0, 0, 0, 0, 0};
        for (int d = 0; d <= 20; d++) {
            due.is("Terms 1, 4: the MISS of " + d + " at first, 0 at least", x.miss(d, 0), atFirst[d]);
        }
    }

    private static void aDifferenceAboveTwenty() {
        DatingTable x = new DatingTable();
        x.miss(20, 9);
        x.miss(0, 0);
        x.find(0, 1000);
        int[] ages = {980, 1020, 979, 1021, 1000, 0, 2000};
        int[] weights = {9, 9, 0, 0, 0, 0, 0};
        for (int at = 0; at < ages.length; at++) {
            x.curve(at, ages[at]);
            due.is("Terms 1, 14: 1000 where THE CURVE is " + ages[at], x.weight(0, at), weights[at]);
        }
        x.find(0, 0);
        x.find(0, 2000);
        x.miss(0, 5);
        due.is("Terms 1, 14: age 0 where THE CURVE is 0", x.weight(1, 5), 5);
        due.is("Terms 1, 14: age 0 where THE CURVE is 2000", x.weight(1, 6), 0);
        due.is("Terms 1, 14: age 2000 where THE CURVE is 2000", x.weight(2, 6), 5);
        due.is("Terms 1, 14: age 2000 where THE CURVE is 0", x.weight(2, 5), 0);
    }

    private static void findsOfEachKind() {
        int[][] right = {{0, 0}, {0, 2000}, {1, 0}, {1, 2000}, {2, LEAST}, {2, MOST}, {2, -1}, {2, 2001}, {3, 0}, {3, 39}};
        int[][] wrong = {{0, -1}, {0, 2001}, {0, LEAST}, {0, MOST}, {1, -1}, {1, 2001}, {1, LEAST}, {1, MOST}, {3, -1}, {3, 40},
            {3, LEAST}, {3, MOST}, {-1, 0}, {4, 0}, {LEAST, 0}, {MOST, 0}};
        for (int[] f : right) {
            DatingTable x = new DatingTable();
            due.is("9: KIND " + f[0] + " of " + f[1], x.find(f[0], f[1]), 0);
            due.is("13: its age, 0 of a BORDER", x.of(0, 1), f[0] == 2 ? 0 : f[1]);
            due.is("13: how many AGES", x.of(0, 3), f[0] < 2 ? 1 : 0);
        }
        DatingTable x = new DatingTable();
        for (int[] f : wrong) {
            due.is("9: KIND " + f[0] + " of " + f[1], x.find(f[0], f[1]), BAD);
            due.is("9: behind BAD", x.count(0), 0);
        }
    }

    private static void theEighthFind() {
        DatingTable x = new DatingTable();
        for (int i = 0; i < 7; i++) {
            due.is("9: find " + i, x.find(2, 0), i);
        }
        for (int kind = 0; kind < 4; kind++) {
            due.is("9: an eighth one of KIND " + kind, x.find(kind, 0), BAD);
        }
        due.is("9: there are 7", x.count(0), 7);
        x.drop();
        due.is("9: there is room again", x.find(3, 0), 6);
        due.is("9: and no more of it", x.find(3, 0), BAD);
    }

    private static void noFindAtAll() {
        DatingTable x = new DatingTable();
        due.is("10: of no finds", x.ring(0, 0, 0), BAD);
        due.is("11: of no finds", x.odd(0, 0), BAD);
        due.is("12: of no finds", x.pair(0, 1, 1), BAD);
        due.is("13: of no finds", x.of(0, 0), BAD);
        due.is("14: of no finds", x.weight(0, 0), BAD);
        x.find(2, 0);
        due.is("12: of one find", x.pair(0, 1, 1), BAD);
        due.is("12: of one find, turned", x.pair(1, 0, 1), BAD);
    }

    private static void aKnownYearThatIsNone() {
        DatingTable x = new DatingTable();
        x.find(3, 30);
        due.is("9, 13: a KNOWN year behind the YEARS", x.of(0, 5), 0);
        due.is("14: the last of the YEARS is not it", x.weight(0, 29), 0);
        due.is("18: no GIVING has it", x.total(), 0);
        x.years(31);
        due.is("9, 13: it is the last of the YEARS", x.of(0, 5), 1);
        due.is("14: a KNOWN year", x.weight(0, 30), 1);
        due.is("14: the year ahead of it", x.weight(0, 29), 0);
    }

    private static void ringAtItsEnds() {
        DatingTable x = new DatingTable();
        x.find(1, 0);
        due.is("10: age 0, GAP 0", x.ring(0, 0, 0), 2);
        due.is("10: age 2000, GAP 39", x.ring(0, 2000, 39), 3);
        due.is("10: age 2001", x.ring(0, 2001, 0), BAD);
        due.is("10: GAP 40", x.ring(0, 0, 40), BAD);
        due.is("10: find 1 of 1", x.ring(1, 0, 0), BAD);
        for (int v : OUTSIDE) {
            due.is("10: age " + v, x.ring(0, v, 0), BAD);
            due.is("10: GAP " + v, x.ring(0, 0, v), BAD);
            due.is("10: find " + v, x.ring(v, 0, 0), BAD);
        }
        due.is("10: AGES behind BAD", x.of(0, 3), 3);
        due.is("10: BAD is none of the host", x.count(4), 0);
    }

    private static void theSixthAge() {
        DatingTable x = new DatingTable();
        x.find(1, 450);
        for (int ages = 2; ages <= 5; ages++) {
            due.is("10: AGE " + ages, x.ring(0, 450, 0), ages);
        }
        due.is("10: the sixth AGE", x.ring(0, 450, 0), BAD);
        due.is("10: there are 5", x.of(0, 3), 5);
        due.is("10: the sixth AGE is none of the host", x.count(4), 0);
        due.is("14: 9 to the fifth", x.weight(0, 10), 59049);
        due.is("14: 4 to the fifth", x.weight(0, 9), 1024);
    }

    private static void ringsOfAnotherKind() {
        DatingTable x = new DatingTable();
        x.find(0, 450);
        x.find(2, 0);
        x.find(3, 0);
        for (int i = 0; i < 3; i++) {
            due.is("10: of another KIND", x.ring(i, 0, 0), SORT);
            due.is("10: SORT is one of the host", x.count(4), i + 1);
            due.is("10: BAD ahead of SORT: age", x.ring(i, 2001, 0), BAD);
            due.is("10: BAD ahead of SORT: GAP", x.ring(i, 0, 40), BAD);
            due.is("10: AGES behind SORT", x.of(i, 3), i == 0 ? 1 : 0);
        }
        due.is("14: the FIND is as it was", x.weight(0, 10), 9);
    }

    private static void ringsGapOfNone() {
        DatingTable x = new DatingTable();
        x.find(1, 450);
        due.is("14: RINGS of one AGE", x.weight(0, 9), 4);
        x.ring(0, 448, 0);
        // THE CURVE is 455, 450 and 445 in the years 9 to 11.
        due.is("10, 14: GAP 0 is the same year", x.weight(0, 10), 9 * 7);
        due.is("10, 14: GAP 0, a year earlier", x.weight(0, 9), 4 * 2);
        due.is("10, 14: GAP 0, a year later", x.weight(0, 11), 4 * 6);
    }

    private static void ringsGapOfThirtyNine() {
        DatingTable x = new DatingTable();
        x.years(40);
        for (int year = 0; year < 40; year++) {
            x.curve(year, 100);
        }
        x.find(1, 100);
        x.ring(0, 100, 39);
        due.is("10, 14: GAP 39 from year 0 on", x.weight(0, 0), 81);
        due.is("10, 14: GAP 39 from year 1 on: no such year", x.weight(0, 1), 0);
        due.is("10, 14: GAP 39 from year 39 on: no such year", x.weight(0, 39), 0);
        due.is("13: one year alone", x.of(0, 5), 1);
        x.years(39);
        due.is("10, 14: GAP 39 of 39 YEARS: no such year", x.weight(0, 0), 0);
        due.is("13: none at all", x.of(0, 5), 0);
    }

    private static void ringsPastTheLastYear() {
        DatingTable x = new DatingTable();
        x.find(1, 450);
        x.ring(0, 440, 2);
        x.years(13);
        due.is("10, 14: the other AGE in the last of the YEARS", x.weight(0, 10), 81);
        x.years(12);
        due.is("10, 14: the other AGE behind the last one", x.weight(0, 10), 0);
        due.is("10, 14: a year ahead of that", x.weight(0, 9), 16);
        due.is("13: the MEAN counts the year that is left", x.of(0, 4), 16 / 12);
    }

    private static void ringsAreMultiplied() {
        DatingTable x = new DatingTable();
        x.find(1, 450);
        x.ring(0, 440, 3);
        // 450 is 0 off in year 10, 440 is 5 off in year 13.
        due.is("10, 14: times the same of the other AGE", x.weight(0, 10), 9 * 4);
        x.ring(0, 431, 13);
        // THE CURVE is 385 in year 23.
        due.is("10, 14: one that is too far off makes it 0", x.weight(0, 10), 0);
        x.curve(23, 431);
        due.is("10, 14: of three AGES", x.weight(0, 10), 9 * 4 * 9);
        x.miss(5, 0);
        due.is("10, 14: a MISS of 0 makes it 0", x.weight(0, 10), 0);
    }

    private static void oddAtItsEnds() {
        DatingTable x = withBorders(1, 30);
        due.is("11: o 9, 0 at first", x.odd(0, 9), 0);
        due.is("11: o 0", x.odd(0, 0), 9);
        due.is("11: o 10", x.odd(0, 10), BAD);
        due.is("11: find 1 of 1", x.odd(1, 1), BAD);
        for (int v : OUTSIDE) {
            due.is("11: o " + v, x.odd(0, v), BAD);
            due.is("11: find " + v, x.odd(v, 1), BAD);
        }
        due.is("11: behind BAD", x.of(0, 2), 0);
    }

    private static void weightsOfOdd() {
        DatingTable x = new DatingTable();
        x.years(12);
        x.find(0, 450);
        // PLAINS 4, 9 and 4 in the years 9 to 11: the MEAN is 17 by 12, cut.
        int[] odd = {0, 1, 5, 9};
        int[] atTen = {9, 82, 50, 18};
        int[] atNone = {0, 1, 5, 9};
        for (int at = 0; at < odd.length; at++) {
            x.odd(0, odd[at]);
            due.is("Terms 1, 14: where PLAIN is 9, ODD by " + odd[at], x.weight(0, 10), atTen[at]);
            due.is("Terms 1, 14: where PLAIN is 0, ODD by " + odd[at], x.weight(0, 0), atNone[at]);
            due.is("13: the MEAN stays", x.of(0, 4), 1);
            due.is("13: YEARS that weigh", x.of(0, 5), odd[at] == 0 ? 3 : 12);
        }
        x.years(18);
        due.is("Terms 1, 14: the MEAN is 0, where PLAIN is 9", x.weight(0, 10), 9);
        due.is("Terms 1, 14: the MEAN is 0, where PLAIN is 0", x.weight(0, 0), 0);
        due.is("13: YEARS that weigh, the MEAN is 0", x.of(0, 5), 3);
    }

    private static void theMeanIsCut() {
        DatingTable x = new DatingTable();
        x.find(0, 450);
        // The sum is 0 in 9 YEARS, 4 in 10, 13 in 11, and 17 in all that follow.
        int[] years = {9, 10, 11, 12, 16, 17, 18, 40};
        int[] means = {0, 0, 1, 1, 1, 1, 0, 0};
        for (int at = 0; at < years.length; at++) {
            x.years(years[at]);
            due.is("Terms 1, 13: the MEAN over " + years[at] + " YEARS", x.of(0, 4), means[at]);
        }
        x.years(1);
        x.curve(0, 450);
        due.is("Terms 1, 13: the MEAN over 1 of the YEARS", x.of(0, 4), 9);
        x.years(2);
        x.curve(1, 450);
        due.is("Terms 1, 13: 18 by 2", x.of(0, 4), 9);
        x.curve(1, 451);
        due.is("Terms 1, 13: 17 by 2, cut", x.of(0, 4), 8);
    }

    private static void theMeanOfKnownAndBorder() {
        DatingTable x = new DatingTable();
        x.find(3, 0);
        x.find(2, 0);
        due.is("Terms 1, 13: of a KNOWN one 1 by 30, cut", x.of(0, 4), 0);
        due.is("Terms 1, 13: of a BORDER 30 by 30", x.of(1, 4), 1);
        x.odd(0, 9);
        due.is("14: a KNOWN one that is ODD, in its year", x.weight(0, 0), 1);
        due.is("14: in another one", x.weight(0, 1), 0);
        x.years(1);
        due.is("Terms 1, 13: of a KNOWN one 1 by 1", x.of(0, 4), 1);
        due.is("14: a KNOWN one that is ODD, in 1 of the YEARS", x.weight(0, 0), 10);
        due.is("Terms 1, 13: of a BORDER 1 by 1", x.of(1, 4), 1);
        x.find(3, 1);
        due.is("Terms 1, 13: of a KNOWN one just behind the YEARS", x.of(2, 4), 0);
        x.odd(2, 9);
        due.is("14: and so it weighs nothing", x.weight(2, 0), 0);
    }

    private static void pairAtItsEnds() {
        DatingTable x = withBorders(7, 30);
        due.is("12: how 1", x.pair(0, 6, 1), 0);
        due.is("12: how 2", x.pair(0, 6, 2), 1);
        due.is("12: how 0", x.pair(0, 6, 0), 2);
        due.is("12: neither, again", x.pair(0, 6, 0), 0);
        due.is("12: how 3", x.pair(0, 6, 3), BAD);
        due.is("12: the first is find 7", x.pair(7, 0, 1), BAD);
        due.is("12: the second is find 7", x.pair(0, 7, 1), BAD);
        for (int v : OUTSIDE) {
            due.is("12: how " + v, x.pair(0, 6, v), BAD);
            due.is("12: the first is find " + v, x.pair(v, 6, 1), BAD);
            due.is("12: the second is find " + v, x.pair(0, v, 1), BAD);
        }
        due.is("12: no PAIRS behind BAD", x.count(2), 0);
    }

    private static void pairOfTheSame() {
        DatingTable x = withBorders(7, 30);
        for (int i = 0; i < 7; i++) {
            for (int how = 0; how <= 2; how++) {
                due.is("12: the same find, how " + how, x.pair(i, i, how), BAD);
            }
        }
        due.is("12: no PAIRS behind the same", x.count(2), 0);
        due.is("12: nor in THE TOTAL", x.total(), 21870000000L);
    }

    private static void theOtherWayStays() {
        DatingTable x = withBorders(2, 30);
        x.pair(1, 0, 2);
        due.is("12: what the first is to the second", x.pair(0, 1, 1), 0);
        due.is("12: what the second is to the first stays", x.pair(1, 0, 2), 2);
        due.is("12, 36: both are PAIRS", x.count(2), 2);
        due.is("12: neither", x.pair(0, 1, 0), 1);
        due.is("12: the second to the first stays still", x.pair(1, 0, 0), 2);
    }

    private static void ofAtItsEnds() {
        DatingTable x = withBorders(1, 30);
        due.is("13: what 0", x.of(0, 0), 2);
        due.is("13: what 5", x.of(0, 5), 30);
        due.is("13: what 6", x.of(0, 6), BAD);
        due.is("13: find 1 of 1", x.of(1, 0), BAD);
        for (int v : OUTSIDE) {
            due.is("13: what " + v, x.of(0, v), BAD);
            due.is("13: find " + v, x.of(v, 0), BAD);
        }
    }

    private static void weightAtItsEnds() {
        DatingTable x = withBorders(1, 30);
        due.is("14: the first of the YEARS", x.weight(0, 0), 1);
        due.is("14: the last of the YEARS", x.weight(0, 29), 1);
        due.is("14: a year of THE CURVE that is none of the YEARS", x.weight(0, 30), BAD);
        due.is("14: find 1 of 1", x.weight(1, 0), BAD);
        for (int v : OUTSIDE) {
            due.is("14: year " + v, x.weight(0, v), BAD);
            due.is("14: find " + v, x.weight(v, 0), BAD);
        }
    }

    private static void dropWithoutFinds() {
        DatingTable x = new DatingTable();
        due.is("15: none at first", x.drop(), NOTHING);
        x.find(2, 0);
        due.is("15: the only one", x.drop(), 0);
        due.is("15: none again", x.drop(), NOTHING);
        due.is("15: NOTHING is one of the host", x.count(4), 2);
        due.is("15: there is none", x.count(0), 0);
        due.is("15: the next find is 0", x.find(2, 0), 0);
    }

    private static void dropTakesPairs() {
        DatingTable x = withBorders(7, 30);
        for (int i = 0; i < 6; i++) {
            x.pair(i, 6, 1);
            x.pair(6, i, 2);
        }
        x.pair(5, 0, 1);
        x.pair(0, 5, 2);
        due.is("36: PAIRS ahead of drop()", x.count(2), 14);
        due.is("15: how many are left", x.drop(), 6);
        due.is("15: its PAIRS went, the others are left", x.count(2), 2);
        due.is("15: AHEAD is left", x.pair(5, 0, 1), 1);
        due.is("15: NOT LATER is left", x.pair(0, 5, 2), 2);
        due.is("15: find 6 is no more", x.of(6, 0), BAD);
    }

    private static void madeAnewBehindDrop() {
        DatingTable x = withBorders(1, 30);
        x.find(1, 450);
        for (int a = 0; a < 4; a++) {
            x.ring(1, 450, 3);
        }
        x.odd(1, 9);
        x.pair(0, 1, 1);
        x.pair(1, 0, 2);
        x.drop();
        due.is("15: made anew", x.find(1, 450), 1);
        due.is("15: it has one AGE", x.of(1, 3), 1);
        due.is("15: it is not ODD", x.of(1, 2), 0);
        due.is("15: it has no PAIRS", x.count(2), 0);
        due.is("15: nothing is AHEAD of it", x.pair(0, 1, 0), 0);
        due.is("15: nor is it NOT LATER", x.pair(1, 0, 0), 0);
        due.is("15: its WEIGHT is of one AGE", x.weight(1, 10), 9);
        due.is("15: a new second AGE", x.ring(1, 450, 0), 2);
        due.is("15: its WEIGHT is of two", x.weight(1, 10), 81);
        x.drop();
        x.find(2, 0);
        due.is("15: made anew as a BORDER: no AGES", x.of(1, 3), 0);
        due.is("15: its age is 0", x.of(1, 1), 0);
        due.is("15: it weighs 1", x.weight(1, 10), 1);
        x.drop();
        x.find(0, 450);
        due.is("15: made anew as a FIND: of another KIND than RINGS", x.ring(1, 450, 0), SORT);
        x.drop();
        x.find(3, 7);
        due.is("15: made anew as KNOWN", x.of(1, 1), 7);
        due.is("15: it weighs in its year alone", x.of(1, 5), 1);
    }

    private static void sevenMadeAnew() {
        DatingTable x = withBorders(7, 2);
        read(x, "(a,b,c,d,e,f,g)<=(a,b,c,d,e,f,g)");
        due.is("36: as many PAIRS as there can be", x.count(2), 42);
        for (int left = 6; left >= 0; left--) {
            due.is("15: how many are left", x.drop(), left);
            due.is("15: PAIRS of those that are left", x.count(2), left * (left - 1));
        }
        for (int i = 0; i < 7; i++) {
            due.is("15: made anew", x.find(2, 0), i);
        }
        due.is("15: without PAIRS", x.count(2), 0);
        due.is("15: nor in THE TOTAL", x.total(), 128);
    }
}
