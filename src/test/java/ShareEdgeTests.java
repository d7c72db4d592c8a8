/** The boundary cases that Terms 2 and promises 18 to 28 name. */
public final class ShareEdgeTests extends Tables {
    private static final int[] OUTSIDE = {-1, LEAST, MOST};
    private static final String[] JUST_THE_BOUND = {"99664^2", "99664^2", "99664^2", "99664^2", "99664^2", "8^2", "8^2"};
    private static final String[] BELOW_THE_BOUND = {"99832^2", "9965^2", "942^2", "6311^2", "99883^2", "99931^2", "988^2"};
    /** 9091 * 2161 * 241 * 211 * 4004: 4 above it, since 1, 2 and 3 above have factors that no sum can be. */
    private static final String[] ABOVE_THE_BOUND = {"973222^4", "988741^3", "8887^2", "997^2", "755432^4"};

    public static void main(String[] args) {
        theTotalWithoutFinds();
        theTotalIsZero();
        aheadAndNotLater();
        justTheBound();
        justBelowTheBound();
        justAboveTheBound();
        aSumOfZeroAmongGreatOnes();
        aShareOfZero();
        aShareOfAll();
        lowestTerms();
        noSuchFind();
        bigIsAsked();
        noneIsAsked();
        badAheadOfBigAndNone();
        shareAtItsEnds();
        belowAtFirst();
        belowStays();
        untilAtItsEnds();
        orderOfTheSame();
        orderAtItsEnds();
        apartOfTheSame();
        apartAtItsEnds();
        meanAtItsEnds();
        bestOfSeveral();
        spanAtItsEnds();
        spanOfSeveral();
        strangeAtItsEnds();
        withoutTheOnlyOne();
        withoutIsBig();
        withoutIsNone();
        eachOfSevenInForty();
        eachTwoOfSevenInForty();
        withoutEachOfSeven();
        due.end();
    }

    private static void theTotalWithoutFinds() {
        DatingTable x = new DatingTable();
        due.is("18: without finds 1", x.total(), 1);
        x.find(3, 39);
        due.is("18: of one that has no year", x.total(), 0);
        x.drop();
        due.is("18: without finds again", x.total(), 1);
        x.years(1);
        due.is("18: without finds in 1 of the YEARS", x.total(), 1);
    }

    private static void theTotalIsZero() {
        due.is("18: 0 is no finding", impossible().total(), 0);
        DatingTable x = new DatingTable();
        x.find(0, 2000);
        due.is("18: 0 where no year weighs", x.total(), 0);
        due.is("36: nor one of the host", x.count(4), 0);
    }

    private static void aheadAndNotLater() {
        DatingTable x = withBorders(2, 1);
        x.pair(0, 1, 1);
        due.is("Terms 2, 18: AHEAD in 1 of the YEARS", x.total(), 0);
        x.pair(0, 1, 2);
        due.is("Terms 2, 18: NOT LATER in 1 of the YEARS", x.total(), 1);
        x.years(2);
        due.is("Terms 2, 18: NOT LATER in 2", x.total(), 3);
        x.pair(0, 1, 1);
        due.is("Terms 2, 18: AHEAD in 2", x.total(), 1);
        due.fraction("Terms 2, 19: the first one has the lesser year", x, x.share(0, 0), 1, 1);
        due.fraction("Terms 2, 19: the second one the greater", x, x.share(1, 1), 1, 1);
        DatingTable y = withBorders(7, 6);
        read(y, "a<b<c<d<e<f<g");
        due.is("Terms 2, 18: 7 in a row in 6 YEARS", y.total(), 0);
        y.years(7);
        due.is("Terms 2, 18: 7 in a row in 7 YEARS", y.total(), 1);
        y.years(1);
        read(y, "a<=b<=c<=d<=e<=f<=g<=a");
        due.is("Terms 2, 18: 7 NOT LATER in a ring", y.total(), 1);
    }

    private static void justTheBound() {
        DatingTable x = byPowers(JUST_THE_BOUND);
        due.is("18: just 4000000000000000 is not BIG", x.total(), 4000000000000000L);
        due.fraction("19: at the bound", x, x.share(5, 25), 1, 1);
        due.fraction("19: at the bound, one of several", x, x.share(0, 0), 81, 250);
        due.fraction("21: at the bound", x, x.until(0, 1), 81, 125);
        due.fraction("22: at the bound", x, x.order(0, 6), 1, 1);
        due.fraction("23: at the bound", x, x.apart(5, 6, 1), 1, 1);
        due.fraction("24: at the bound", x, x.mean(6), 26, 1);
        // The years 20 to 24 weigh 81, 81, 36, 36, 16: (81 * 41 + 36 * 45 + 16 * 24) / 250.
        due.fraction("24: at the bound, one of several", x, x.mean(4), 213, 10);
        due.is("25: at the bound", x.best(4), 20);
        due.is("26: at the bound, all", x.span(4, 1000), 2024);
        due.is("26: at the bound, 162 of 250", x.span(4, 648), 2021);
        due.is("26: at the bound, a thousandth more", x.span(4, 649), 2022);
        due.fraction("27: at the bound", x, x.strange(4), 0, 1);
        due.fraction("28: at the bound", x, x.without(4), 250, 1);
        due.is("29: the last NUMBER at the bound", x.draw(3999999999999999L), 16L * 16 * 16 * 16 * 16 * 64 * 64);
        due.is("29: past it", x.draw(4000000000000000L), NONE);
        x.keep();
        due.fraction("35: at the bound", x, x.bears(), 1, 1);
        x.curve(39, 100);
        due.is("18: the least bit more is BIG", x.total(), BIG);
        due.is("35: by the bound", x.bears(), BIG);
    }

    private static void justBelowTheBound() {
        DatingTable x = byPowers(BELOW_THE_BOUND);
        due.is("18: 18443 below the bound", x.total(), 3999999999981557L);
        due.is("29: the last NUMBER of it", x.draw(3999999999981556L), 4L * 25 * 4 * 1 * 9 * 1 * 64);
        due.is("29: past it", x.draw(3999999999981557L), NONE);
    }

    private static void justAboveTheBound() {
        DatingTable x = byPowers(ABOVE_THE_BOUND);
        due.is("18: 4000000000000004 is BIG", x.total(), BIG);
        due.is("29: no NUMBER of it", x.draw(0), BIG);
        x.keep();
        x.drop();
        due.is("18: 4004 times less", x.total(), 999000999001L);
        due.is("35: what is kept is above the bound", x.bears(), BIG);
        x.back();
        x.pair(0, 1, 1);
        x.pair(1, 0, 1);
        due.is("18: BIG goes by the sums alone", x.total(), BIG);
    }

    /** Six RINGS that are BIG, and one find whose year is none of the YEARS. */
    private static DatingTable zeroAmongGreat(int at) {
        DatingTable x = new DatingTable();
        for (int i = 0; i < 7; i++) {
            x.find(i == at ? 3 : 1, i == at ? 30 : 450);
            x.ring(i, 445, 1);
            x.odd(i, i == at ? 0 : 9);
        }
        return x;
    }

    private static void aSumOfZeroAmongGreatOnes() {
        for (int at : new int[] {0, 3, 6}) {
            DatingTable x = zeroAmongGreat(at);
            String where = " with a sum of 0 at " + at;
            due.is("18: total()" + where, x.total(), 0);
            asksOfOne("", where, x, 2, NONE);
            due.is("28: without the one that is 0", x.without(at), BIG);
            due.is("28: without another one", x.without(at == 6 ? 5 : at + 1), NONE);
            due.is("29: draw(0)" + where, x.draw(0), NONE);
            due.is("32: number()" + where, numberOf(x, 9, 9, 9, 9, 9, 9, 9), NONE);
            x.keep();
            due.is("35: bears()" + where, x.bears(), NONE);
            x.years(31);
            due.is("18: its year is there", x.total(), BIG);
            due.is("35: BIG by 0", x.bears(), BIG);
        }
    }

    /** All calls that ask of a find and name no other finding than BAD, BIG and NONE, but without(). */
    private static void asksOfOne(String what, String where, DatingTable x, int i, long want) {
        due.is("19: share()" + what + where, x.share(i, 0), want);
        due.is("21: until()" + what + where, x.until(i, 0), want);
        due.is("22: order()" + what + where, x.order(i, 0), want);
        due.is("22: order(), turned" + what + where, x.order(0, i), want);
        due.is("22: order() of the same" + what + where, x.order(i, i), want);
        due.is("23: apart()" + what + where, x.apart(i, 0, 0), want);
        due.is("23: apart(), turned" + what + where, x.apart(0, i, 0), want);
        due.is("23: apart() of the same" + what + where, x.apart(i, i, 0), want);
        due.is("24: mean()" + what + where, x.mean(i), want);
        due.is("25: best()" + what + where, x.best(i), want);
        due.is("26: span()" + what + where, x.span(i, 500), want);
        due.is("27: strange()" + what + where, x.strange(i), want);
    }

    private static void aShareOfZero() {
        DatingTable x = withBorders(2, 6);
        x.find(3, 5);
        due.fraction("20: ahead of each", x, x.share(0, 0), 1, 6);
        due.fraction("19, 20: of 0 it is 1", x, x.share(2, 0), 0, 1);
        x.share(0, 0);
        due.fraction("21, 20: of 0 it is 1", x, x.until(2, 4), 0, 1);
        x.share(0, 0);
        due.fraction("22, 20: of 0 it is 1", x, x.order(2, 0), 0, 1);
        x.share(0, 0);
        due.fraction("23, 20: of 0 it is 1", x, x.apart(2, 0, 1), 0, 1);
        x.share(0, 0);
        due.fraction("27, 20: of 0 it is 1", x, x.strange(0), 0, 1);
        x.keep();
        x.pair(0, 1, 2);
        x.pair(1, 0, 1);
        due.fraction("28, 20: of 0 it is 1", x, x.without(0), 0, 1);
        due.fraction("35, 20: of 0 it is 1", x, x.bears(), 0, 1);
        DatingTable y = withBorders(1, 6);
        y.find(3, 0);
        y.share(0, 0);
        due.fraction("24, 20: of 0 it is 1", y, y.mean(1), 0, 1);
    }

    private static void aShareOfAll() {
        DatingTable x = withBorders(1, 6);
        x.find(3, 5);
        x.share(0, 0);
        due.fraction("19: all", x, x.share(1, 5), 1, 1);
        x.share(0, 0);
        due.fraction("21: all", x, x.until(0, 5), 1, 1);
        x.pair(0, 1, 1);
        x.share(0, 0);
        due.fraction("22: all", x, x.order(0, 1), 1, 1);
        x.years(1);
        x.drop();
        due.fraction("19: all in 1 of the YEARS", x, x.share(0, 0), 1, 1);
    }

    private static void lowestTerms() {
        DatingTable x = withBorders(2, 6);
        due.fraction("19: 6 of 36", x, x.share(0, 3), 1, 6);
        due.fraction("21: 24 of 36", x, x.until(0, 3), 2, 3);
        due.fraction("22: 15 of 36", x, x.order(0, 1), 5, 12);
        due.fraction("23: 4 of 36", x, x.apart(0, 1, -2), 1, 9);
        due.fraction("24: 90 by 36", x, x.mean(0), 5, 2);
        x.odd(0, 4);
        due.fraction("27: 144 of 360", x, x.strange(0), 2, 5);
        x.odd(0, 0);
        x.pair(0, 1, 2);
        due.fraction("28: 21 by 6", x, x.without(0), 7, 2);
        x.keep();
        x.pair(0, 1, 1);
        due.fraction("35: 15 by 21", x, x.bears(), 5, 7);
    }

    private static void noSuchFind() {
        DatingTable none = new DatingTable();
        asksOfOne("", " of no finds", none, 0, BAD);
        due.is("28: without() of no finds", none.without(0), BAD);
        DatingTable x = withBorders(2, 6);
        asksOfOne("", " of find 2 of 2", x, 2, BAD);
        due.is("28: without() of find 2 of 2", x.without(2), BAD);
        for (int i : OUTSIDE) {
            asksOfOne("", " of find " + i, x, i, BAD);
            due.is("28: without() of find " + i, x.without(i), BAD);
        }
        due.is("36: BAD is none of the host", x.count(4), 0);
    }

    private static void bigIsAsked() {
        asksOfOne("", " of what is BIG", tooBig(), 6, BIG);
        due.is("28: without() of what is BIG", tooBig().without(6), BIG);
        DatingTable x = tooBigAndImpossible();
        asksOfOne(", BIG ahead of NONE,", " of what is both", x, 6, BIG);
        due.is("28: BIG ahead of NONE", x.without(6), BIG);
        due.is("36: BIG is none of the host", x.count(4), 0);
    }

    private static void noneIsAsked() {
        DatingTable x = impossible();
        asksOfOne("", " where THE TOTAL is 0", x, 1, NONE);
        due.is("22: of the same, where THE TOTAL is 0", x.order(0, 0), NONE);
        due.is("23: of the same, where THE TOTAL is 0", x.apart(0, 0, 0), NONE);
        due.is("27: not ODD, where THE TOTAL is 0", x.strange(0), NONE);
        due.is("36: NONE is none of the host", x.count(4), 0);
    }

    private static void badAheadOfBigAndNone() {
        DatingTable[] tables = {tooBig(), impossible(), tooBigAndImpossible()};
        int[] finds = {7, 2, 7};
        int[] years = {30, 5, 30};
        for (int t = 0; t < 3; t++) {
            DatingTable x = tables[t];
            asksOfOne(", BAD ahead of BIG and NONE,", " in table " + t, x, finds[t], BAD);
            due.is("28: BAD ahead of BIG and NONE", x.without(finds[t]), BAD);
            due.is("19: BAD year ahead of BIG and NONE", x.share(0, years[t]), BAD);
            due.is("21: BAD year ahead of BIG and NONE", x.until(0, years[t]), BAD);
            due.is("23: BAD d ahead of BIG and NONE", x.apart(0, 1, 40), BAD);
            due.is("26: p 0 ahead of BIG and NONE", x.span(0, 0), BAD);
            due.is("26: p 1001 ahead of BIG and NONE", x.span(0, 1001), BAD);
        }
    }

    private static void shareAtItsEnds() {
        DatingTable x = new DatingTable();
        x.years(4);
        x.curve(0, 450);
        x.curve(3, 452);
        x.find(0, 450);
        due.fraction("19: the first of the YEARS", x, x.share(0, 0), 9, 16);
        due.fraction("19: the last of the YEARS", x, x.share(0, 3), 7, 16);
        due.is("19: year 4 of 4", x.share(0, 4), BAD);
        due.is("19: a year of THE CURVE alone", x.share(0, 39), BAD);
        for (int year : OUTSIDE) {
            due.is("19: year " + year, x.share(0, year), BAD);
        }
    }

    private static void belowAtFirst() {
        DatingTable x = withBorders(2, 6);
        due.is("20: 1 at first", x.below(), 1);
        x.share(0, 6);
        x.total();
        due.is("20: 1 before any SHARE was answered", x.below(), 1);
        x.share(0, 0);
        due.is("20: the latest SHARE", x.below(), 6);
        due.is("20: asked again", x.below(), 6);
    }

    private static void belowStays() {
        DatingTable x = withBorders(2, 6);
        x.share(0, 0);
        x.best(0);
        x.span(0, 500);
        x.total();
        x.draw(3);
        x.drawn(0);
        numberOf(x, 1, 1);
        x.weight(0, 0);
        due.is("20: behind answers that are no SHARES", x.below(), 6);
        x.share(0, 6);
        x.without(2);
        x.bears();
        due.is("20: behind findings", x.below(), 6);
        x.years(5);
        x.drop();
        x.drop();
        x.keep();
        x.back();
        due.is("20: behind changes", x.below(), 6);
    }

    private static void untilAtItsEnds() {
        DatingTable x = new DatingTable();
        x.years(4);
        x.curve(0, 450);
        x.curve(3, 452);
        x.find(0, 450);
        due.fraction("21: the first of the YEARS", x, x.until(0, 0), 9, 16);
        due.fraction("21: the last but one", x, x.until(0, 2), 9, 16);
        due.fraction("21: the last of the YEARS", x, x.until(0, 3), 1, 1);
        due.is("21: year 4 of 4", x.until(0, 4), BAD);
        due.is("21: a year of THE CURVE alone", x.until(0, 39), BAD);
        for (int year : OUTSIDE) {
            due.is("21: year " + year, x.until(0, year), BAD);
        }
    }

    private static void orderOfTheSame() {
        DatingTable x = withBorders(2, 6);
        x.share(0, 0);
        due.fraction("22: the same find is never lesser", x, x.order(0, 0), 0, 1);
        due.fraction("22: nor is the last one", x, x.order(1, 1), 0, 1);
        x.years(1);
        due.fraction("22: nor is one in 1 of the YEARS", x, x.order(0, 0), 0, 1);
    }

    private static void orderAtItsEnds() {
        DatingTable x = withBorders(2, 1);
        due.fraction("22: the same year is not lesser", x, x.order(0, 1), 0, 1);
        x.years(2);
        due.fraction("22: 1 of 4", x, x.order(0, 1), 1, 4);
        x.pair(0, 1, 2);
        due.fraction("22: 1 of 3, NOT LATER", x, x.order(0, 1), 1, 3);
        due.fraction("22: none of 3, turned", x, x.order(1, 0), 0, 1);
        x.pair(0, 1, 1);
        due.fraction("22: 1 of 1, AHEAD", x, x.order(0, 1), 1, 1);
        due.fraction("22: none of 1, turned", x, x.order(1, 0), 0, 1);
        due.is("22: the PAIR is as it was", x.pair(0, 1, 1), 1);
        due.is("22: and no other one came", x.count(2), 1);
    }

    private static void apartOfTheSame() {
        DatingTable x = withBorders(2, 40);
        due.fraction("23: the same find, d 0", x, x.apart(1, 1, 0), 1, 1);
        for (int d : new int[] {-39, -1, 1, 39}) {
            x.share(0, 0);
            due.fraction("23: the same find, d " + d, x, x.apart(1, 1, d), 0, 1);
        }
        due.is("23: the same find, d 40", x.apart(1, 1, 40), BAD);
        due.is("23: the same find, d -40", x.apart(1, 1, -40), BAD);
    }

    private static void apartAtItsEnds() {
        DatingTable x = withBorders(2, 40);
        due.fraction("23: d 39 in 40 YEARS", x, x.apart(0, 1, 39), 1, 1600);
        due.fraction("23: d -39 in 40 YEARS", x, x.apart(0, 1, -39), 1, 1600);
        due.fraction("23: d 38 in 40 YEARS", x, x.apart(0, 1, 38), 1, 800);
        due.fraction("23: d 0 in 40 YEARS", x, x.apart(0, 1, 0), 1, 40);
        for (int d : new int[] {40, -40, LEAST, MOST, LEAST + 1}) {
            due.is("23: d " + d, x.apart(0, 1, d), BAD);
        }
        x.years(39);
        due.fraction("23: d 39 in 39 YEARS", x, x.apart(0, 1, 39), 0, 1);
        due.fraction("23: d -39 in 39 YEARS", x, x.apart(0, 1, -39), 0, 1);
        x.years(1);
        due.fraction("23: d 0 in 1 of the YEARS", x, x.apart(0, 1, 0), 1, 1);
        due.fraction("23: d 1 in 1 of the YEARS", x, x.apart(0, 1, 1), 0, 1);
        x.years(40);
        x.drop();
        x.drop();
        x.find(3, 39);
        x.find(3, 0);
        due.fraction("23: the second is 39 less than the first", x, x.apart(0, 1, -39), 1, 1);
        due.fraction("23: turned it is 39 more", x, x.apart(1, 0, 39), 1, 1);
        due.fraction("23: and not 39 less", x, x.apart(1, 0, -39), 0, 1);
    }

    private static void meanAtItsEnds() {
        DatingTable x = new DatingTable();
        x.years(40);
        x.find(3, 39);
        x.find(3, 0);
        x.find(2, 0);
        due.fraction("24: the last of the YEARS", x, x.mean(0), 39, 1);
        due.fraction("24: the first of the YEARS", x, x.mean(1), 0, 1);
        due.fraction("24: all of the YEARS", x, x.mean(2), 39, 2);
        x.pair(2, 1, 2);
        due.fraction("24: none but the first one", x, x.mean(2), 0, 1);
        DatingTable y = withBorders(1, 1);
        due.fraction("24: 1 of the YEARS", y, y.mean(0), 0, 1);
    }

    private static void bestOfSeveral() {
        DatingTable x = new DatingTable();
        x.find(0, 450);
        due.is("25: the greatest", x.best(0), 10);
        x.curve(29, 450);
        due.is("25: of two the first, not the last of the YEARS", x.best(0), 10);
        x.curve(0, 450);
        due.is("25: of three the first of the YEARS", x.best(0), 0);
        x.curve(1, 450);
        due.is("25: of four the first still", x.best(0), 0);
        x.curve(0, 451);
        due.is("25: the second is greater than the first", x.best(0), 1);
        x.curve(0, 450);
        x.curve(1, 495);
        x.miss(0, 3);
        due.is("25: another one is greater", x.best(0), 9);
        x.find(2, 0);
        due.is("25: of 30 the first", x.best(1), 0);
        x.find(3, 29);
        due.is("25: the last of the YEARS", x.best(2), 29);
        x.pair(2, 1, 2);
        due.is("25: none but the last one", x.best(1), 29);
        due.is("25: 1 of the YEARS", withBorders(3, 1).best(2), 0);
    }

    private static void spanAtItsEnds() {
        DatingTable x = withBorders(1, 40);
        // Each year has 25 thousandths.
        int[] p = {1, 24, 25, 26, 50, 51, 975, 976, 999, 1000};
        int[] last = {0, 0, 0, 1, 1, 2, 38, 39, 39, 39};
        for (int at = 0; at < p.length; at++) {
            due.is("26: p " + p[at] + " of 40 even YEARS", x.span(0, p[at]), last[at]);
        }
        for (int none : new int[] {0, 1001, -1, LEAST, MOST}) {
            due.is("26: p " + none, x.span(0, none), BAD);
        }
        x.find(3, 39);
        due.is("26: the last of the YEARS, p 1", x.span(1, 1), 3939);
        due.is("26: the last of the YEARS, p 1000", x.span(1, 1000), 3939);
        x.pair(1, 0, 2);
        due.is("26: none but the last one", x.span(0, 1000), 3939);
        x.years(1);
        x.drop();
        due.is("26: 1 of the YEARS, p 1000", x.span(0, 1000), 0);
        due.is("26: 1 of the YEARS, p 1", x.span(0, 1), 0);
    }

    private static void spanOfSeveral() {
        DatingTable x = new DatingTable();
        x.find(0, 450);
        x.curve(20, 450);
        x.curve(28, 450);
        x.curve(29, 450);
        // 4, 9, 4 in the years 9 to 11, then 9 in 20, 28 and 29: 44 in all.
        due.is("26: of years with as much the first that has enough", x.span(0, 204), 1010);
        due.is("26: one with less stands ahead of it", x.span(0, 90), 909);
        due.is("26: of three rows of two the one that has enough", x.span(0, 296), 2829);
        due.is("26: of several rows of two the first", x.span(0, 295), 910);
        due.is("26: of all rows the shortest, with years of 0 in it", x.span(0, 1000), 929);
        due.is("26: a shorter row, though another begins earlier", x.span(0, 500), 2029);
        x.curve(9, 0);
        x.curve(11, 0);
        // 9 each in the years 10, 20, 28 and 29.
        due.is("26: three of four", x.span(0, 750), 2029);
        due.is("26: a thousandth more", x.span(0, 751), 1029);
    }

    private static void strangeAtItsEnds() {
        DatingTable x = withBorders(1, 12);
        due.fraction("27: 0 if o is 0", x, x.strange(0), 0, 1);
        x.odd(0, 1);
        due.fraction("27: o 1", x, x.strange(0), 1, 10);
        x.odd(0, 9);
        due.fraction("27: o 9", x, x.strange(0), 9, 10);
        x.find(0, 450);
        x.find(3, 0);
        due.fraction("27: the others may be ODD", x, x.strange(1), 0, 1);
        x.odd(1, 3);
        // The MEAN of 17 over 12 YEARS is 1.
        due.fraction("27: 36 of 155", x, x.strange(1), 36, 155);
        x.pair(1, 2, 2);
        due.fraction("27: all comes of it where PLAIN is 0", x, x.strange(1), 1, 1);
        x.years(18);
        due.is("27: the MEAN is 0, and so is THE TOTAL", x.strange(1), NONE);
        x.pair(1, 2, 0);
        due.fraction("27: 0 where the MEAN is 0", x, x.strange(1), 0, 1);
        x.odd(2, 9);
        due.fraction("27: 0 of a KNOWN one", x, x.strange(2), 0, 1);
        x.years(1);
        x.curve(0, 450);
        due.fraction("27: a KNOWN one in 1 of the YEARS", x, x.strange(2), 9, 10);
    }

    private static void withoutTheOnlyOne() {
        DatingTable x = withBorders(1, 6);
        due.fraction("28: without the only one there is 1", x, x.without(0), 6, 1);
        x.find(3, 6);
        due.fraction("28: 0 by 6", x, x.without(1), 0, 1);
        due.is("28: 0 by 0", x.without(0), NONE);
        due.is("28: the finds are as they were", x.count(0), 2);
    }

    private static void withoutIsBig() {
        DatingTable x = byPowers(ABOVE_THE_BOUND);
        for (int i = 0; i < 5; i++) {
            due.is("28: BIG as it is, not without find " + i, x.without(i), BIG);
        }
        x.pair(0, 1, 1);
        x.pair(1, 0, 1);
        due.is("28: BIG as it is, ahead of NONE", x.without(4), BIG);
        DatingTable y = zeroAmongGreat(3);
        due.is("28: not BIG as it is, but without", y.without(3), BIG);
        y.pair(0, 1, 1);
        y.pair(1, 0, 1);
        due.is("28: not BIG as it is, but without, ahead of NONE", y.without(3), BIG);
    }

    private static void withoutIsNone() {
        DatingTable x = impossible();
        x.find(2, 0);
        x.pair(2, 0, 1);
        due.is("28: that is 0", x.without(2), NONE);
        due.fraction("28: the one of a PAIR that can't be", x, x.without(1), 0, 1);
        due.is("28: the PAIRS are as they were", x.count(2), 3);
        x.pair(1, 0, 0);
        // a ahead of b: 10 of 25; with c ahead of a: 0 * 4 + 1 * 3 + 2 * 2 + 3 * 1.
        due.fraction("28: its PAIRS go with it", x, x.without(2), 1, 1);
        due.fraction("28: those of others stay", x, x.without(1), 1, 1);
        due.fraction("28: both go", x, x.without(0), 2, 5);
    }

    private static void eachOfSevenInForty() {
        for (int i = 0; i < 7; i++) {
            DatingTable x = withBorders(7, 40);
            String of = " of find " + i + " of 7 in 40 YEARS";
            due.fraction("19: the last year" + of, x, x.share(i, 39), 1, 40);
            due.fraction("21: the last year but one" + of, x, x.until(i, 38), 39, 40);
            due.fraction("24: the mean year" + of, x, x.mean(i), 39, 2);
            due.is("25: the best year" + of, x.best(i), 0);
            due.is("26: 975 thousandths" + of, x.span(i, 975), 38);
            due.is("26: 976 thousandths" + of, x.span(i, 976), 39);
            x.odd(i, 4);
            for (int k = 0; k < 7; k++) {
                due.fraction("27: what comes of " + k + of, x, x.strange(k), k == i ? 2 : 0, k == i ? 5 : 1);
            }
            due.is("18: with one that is ODD" + of, x.total(), 1638400000000L);
            due.fraction("28: without it" + of, x, x.without(i), 400, 1);
        }
    }

    private static void eachTwoOfSevenInForty() {
        for (int i = 0; i < 7; i++) {
            DatingTable x = withBorders(7, 40);
            for (int k = 0; k < 7; k++) {
                String of = " of finds " + i + " and " + k + " of 7 in 40 YEARS";
                boolean isSame = i == k;
                due.fraction("22: the order" + of, x, x.order(i, k), isSame ? 0 : 39, isSame ? 1 : 80);
                due.fraction("23: 39 years" + of, x, x.apart(i, k, 39), isSame ? 0 : 1, isSame ? 1 : 1600);
                due.fraction("23: -39 years" + of, x, x.apart(i, k, -39), isSame ? 0 : 1, isSame ? 1 : 1600);
                due.fraction("23: the same year" + of, x, x.apart(i, k, 0), 1, isSame ? 1 : 40);
            }
        }
    }

    /** One is AHEAD of all others, or all others are AHEAD of it: without it, they are free. */
    private static void withoutEachOfSeven() {
        for (int i = 0; i < 7; i++) {
            DatingTable x = withBorders(7, 3);
            DatingTable y = withBorders(7, 3);
            for (int k = 0; k < 7; k++) {
                x.pair(i, k, 1);
                y.pair(k, i, 2);
            }
            // In 3 YEARS: 2 to the sixth and 1, by 3 to the sixth.
            due.fraction("28: without find " + i + ", AHEAD of all", x, x.without(i), 65, 729);
            due.fraction("28: without find " + i + ", none is LATER", y, y.without(i), 794, 729);
            int other = (i + 3) % 7;
            // 2 to the fifth and 1 are left.
            due.fraction("28: without another one than " + i, x, x.without(other), 65, 33);
        }
    }
}
