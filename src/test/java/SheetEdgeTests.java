/** The boundary cases that Terms 3 and promises 5 to 8 name, each sentence by a test of its own. */
public final class SheetEdgeTests extends Tables {
    private static final int[] NO_SHEETS = {-1, 4, LEAST, MOST};
    private static final int[] NO_SORTS = {-1, 4, LEAST, MOST};

    public static void main(String[] args) {
        sheetsAreMissingAtFirst();
        aRowOfNoNumbers();
        aRowOfSixtyNumbers();
        tooManyOrTooFewNumbers();
        noSuchSheetOrSort();
        allNumbersAreZero();
        rowsAreApart();
        bytesWrap();
        shortsWrap();
        charsWrap();
        intsStay();
        placesJustOutside();
        writeOfMissing();
        loseAtItsEdges();
        layOfNoNumbers();
        layAtTheEndsOfTheCurve();
        layBelowAndAbove();
        layOfEachSort();
        layOfMissing();
        layOfAnotherSort();
        layPlacesJustOutside();
        layBehindTheYears();
        due.end();
    }

    private static void sheetsAreMissingAtFirst() {
        DatingTable x = new DatingTable();
        for (int s = 0; s < 4; s++) {
            due.is("Terms 3, 6: write to " + s + ", MISSING at first", x.write(s, 0, 1), NOTHING);
            for (int sort = 0; sort < 4; sort++) {
                due.is("Terms 3, 8: lay " + s + " as " + sort + ", MISSING at first", x.lay(s, sort, 0, 0, 0), NOTHING);
            }
            due.is("Terms 3, 7: lose " + s + ", MISSING at first", x.lose(s), 0);
        }
    }

    private static void aRowOfNoNumbers() {
        for (int sort = 0; sort < 4; sort++) {
            DatingTable x = new DatingTable();
            due.is("5: a row of 0", x.sheet(2, sort, 0), 0);
            due.is("6: a row of 0 has no place 0", x.write(2, 0, 1), PLACE);
            due.is("8: none of a row of 0", x.lay(2, sort, 0, 0, 0), 0);
            due.is("8: one of a row of 0", x.lay(2, sort, 0, 0, 1), PLACE);
            due.is("7: a row of 0 is there", x.lose(2), 1);
            due.is("7: a row of 0 that was lost", x.lose(2), 0);
            due.is("6: a row of 0 that was lost", x.write(2, 0, 1), NOTHING);
            due.is("8: a row of 0 that was lost", x.lay(2, sort, 0, 0, 0), NOTHING);
        }
    }

    private static void aRowOfSixtyNumbers() {
        for (int sort = 0; sort < 4; sort++) {
            DatingTable x = new DatingTable();
            due.is("5: a row of 60", x.sheet(3, sort, 60), 60);
            due.is("6: its place 59", x.write(3, 59, 77), 0);
            due.is("6: its place 59 again", x.write(3, 59, 78), 77);
            due.is("6: it has no place 60", x.write(3, 60, 1), PLACE);
            due.is("8: its last number", x.lay(3, sort, 59, 0, 1), 0);
            due.is("8: is laid", x.curve(0, 0), 78);
            due.is("8: its last 40 numbers", x.lay(3, sort, 20, 0, 40), 0);
            due.is("8: the last one lies in year 39", x.curve(39, 0), 78);
            due.is("8: it has no 40 from 21 on", x.lay(3, sort, 21, 0, 40), PLACE);
        }
    }

    private static void tooManyOrTooFewNumbers() {
        DatingTable x = new DatingTable();
        due.is("5: n 61", x.sheet(0, 0, 61), BAD);
        due.is("5: the greatest n", x.sheet(0, 0, MOST), BAD);
        due.is("5: n above 60 is none of the host", x.count(4), 0);
        due.is("5: n -1", x.sheet(0, 0, -1), SIZE);
        due.is("5: the least n", x.sheet(0, 0, LEAST), SIZE);
        due.is("5: n below 0 is one of the host", x.count(4), 2);
        due.is("5: none of these has made a row", x.lose(0), 0);
    }

    private static void noSuchSheetOrSort() {
        DatingTable x = new DatingTable();
        for (int s : NO_SHEETS) {
            due.is("5: no such SHEET " + s, x.sheet(s, 0, 1), BAD);
            due.is("5: no such SHEET " + s + " ahead of SIZE", x.sheet(s, 0, -1), BAD);
            due.is("6: no such SHEET " + s, x.write(s, 0, 1), BAD);
            due.is("6: no such SHEET " + s + ", no place either", x.write(s, -1, 1), BAD);
            due.is("7: no such SHEET " + s, x.lose(s), BAD);
            due.is("8: no such SHEET " + s, x.lay(s, 0, 0, 0, 0), BAD);
        }
        for (int sort : NO_SORTS) {
            due.is("5: no such SORT " + sort, x.sheet(0, sort, 1), BAD);
            due.is("5: no such SORT " + sort + " ahead of SIZE", x.sheet(0, sort, -1), BAD);
            due.is("8: no such SORT " + sort + " ahead of NOTHING", x.lay(0, sort, 0, 0, 0), BAD);
        }
        due.is("5: nothing was made", x.lose(0), 0);
        due.is("36: BAD is none of the host", x.count(4), 0);
    }

    /** Also of a row that stands where a longer one stood, and of one that was lost. */
    private static void allNumbersAreZero() {
        DatingTable x = new DatingTable();
        x.sheet(1, 3, 60);
        for (int i = 0; i < 60; i++) {
            due.is("5: number " + i + " of a new row", x.write(1, i, i + 1), 0);
        }
        x.sheet(1, 0, 2);
        due.is("5: a shorter row has no place 2", x.write(1, 2, 0), PLACE);
        x.sheet(1, 3, 60);
        for (int i = 0; i < 60; i++) {
            due.is("5: number " + i + " of a row made anew", x.write(1, i, i + 1), 0);
        }
        x.lose(1);
        x.sheet(1, 3, 60);
        for (int i = 0; i < 60; i++) {
            due.is("5: number " + i + " behind lose()", x.write(1, i, 0), 0);
        }
    }

    private static void rowsAreApart() {
        DatingTable x = new DatingTable();
        for (int s = 0; s < 4; s++) {
            x.sheet(s, 3, 1 + s);
            x.write(s, s, 10 + s);
        }
        for (int s = 0; s < 4; s++) {
            due.is("5: what was written to " + s, x.write(s, s, 0), 10 + s);
            due.is("5: how many " + s + " has", x.write(s, s + 1, 0), PLACE);
        }
    }

    private static void narrows(int sort, int[] given, int[] narrowed) {
        DatingTable x = new DatingTable();
        x.sheet(0, sort, 1);
        for (int at = 0; at < given.length; at++) {
            x.write(0, 0, given[at]);
            due.is("6: " + given[at] + " narrowed to SORT " + sort, x.write(0, 0, 0), narrowed[at]);
        }
        due.is("6: a number below 0 that was there is no finding", x.count(4), 0);
    }

    private static void bytesWrap() {
        narrows(0, new int[] {0, 127, 128, 255, 256, -1, -128, -129, -256, -10, -13, MOST, LEAST},
            new int[] {0, 127, -128, -1, 0, -1, -128, 127, 0, -10, -13, -1, 0});
    }

    private static void shortsWrap() {
        narrows(1, new int[] {127, 128, 32767, 32768, 65535, 65536, -1, -32768, -32769, -65536, -11, MOST, LEAST},
            new int[] {127, 128, 32767, -32768, -1, 0, -1, -32768, 32767, 0, -11, -1, 0});
    }

    private static void charsWrap() {
        narrows(2, new int[] {32768, 65535, 65536, 65537, -1, -65535, -65536, MOST, LEAST},
            new int[] {32768, 65535, 0, 1, 65535, 1, 0, 65535, 0});
    }

    private static void intsStay() {
        narrows(3, new int[] {128, 65536, -32769, -12, MOST, LEAST}, new int[] {128, 65536, -32769, -12, MOST, LEAST});
    }

    private static void placesJustOutside() {
        for (int sort = 0; sort < 4; sort++) {
            DatingTable x = new DatingTable();
            x.sheet(0, sort, 3);
            due.is("6: the first place", x.write(0, 0, 5), 0);
            due.is("6: the last place", x.write(0, 2, 6), 0);
            int[] outside = {-1, 3, 60, LEAST, MOST};
            for (int i : outside) {
                due.is("6: place " + i + " of 3", x.write(0, i, 9), PLACE);
            }
            due.is("6: PLACE is one of the host", x.count(4), outside.length);
            due.is("6: the first place is as it was", x.write(0, 0, 0), 5);
            due.is("6: the midst is as it was", x.write(0, 1, 0), 0);
            due.is("6: the last place is as it was", x.write(0, 2, 0), 6);
        }
    }

    private static void writeOfMissing() {
        DatingTable x = new DatingTable();
        due.is("6: MISSING", x.write(0, 0, 1), NOTHING);
        due.is("6: MISSING, no place either", x.write(0, -1, 1), NOTHING);
        x.sheet(0, 3, 2);
        x.write(0, 1, 7);
        x.lose(0);
        due.is("6: lost", x.write(0, 1, 1), NOTHING);
        due.is("6: lost, it had no such place", x.write(0, 2, 1), NOTHING);
        due.is("6: NOTHING is one of the host", x.count(4), 4);
        due.is("6: it is still MISSING", x.lose(0), 0);
    }

    private static void loseAtItsEdges() {
        DatingTable x = new DatingTable();
        x.sheet(0, 0, 1);
        x.sheet(3, 3, 60);
        due.is("7: the first SHEET", x.lose(0), 1);
        due.is("7: the last one", x.lose(3), 1);
        due.is("7: the first one again", x.lose(0), 0);
        due.is("7: the last one again", x.lose(3), 0);
        due.is("7: another one that never was", x.lose(1), 0);
        due.is("7: 0 is no finding of the host", x.count(4), 0);
        due.is("7: it can be there again", x.sheet(0, 1, 2), 2);
        due.is("7: and be lost again", x.lose(0), 1);
    }

    private static void layOfNoNumbers() {
        DatingTable x = new DatingTable();
        x.sheet(0, 3, 2);
        x.write(0, 0, -1);
        x.write(0, 1, 2001);
        for (int i : new int[] {0, 2, 3, -1, LEAST, MOST}) {
            due.is("8: n 0 from " + i + " on, whatever i is", x.lay(0, 3, i, 0, 0), 0);
            due.is("8: n 0 from " + i + " on in year 39", x.lay(0, 3, i, 39, 0), 0);
        }
        due.is("8: n 0, but of another SORT", x.lay(0, 2, -1, 0, 0), SORT);
        due.is("8: n 0, but MISSING", x.lay(1, 3, -1, 0, 0), NOTHING);
        due.is("8: n 0, but in no year", x.lay(0, 3, 0, 40, 0), BAD);
        due.is("8: n 0 lays nothing in year 0", x.curve(0, 0), 500);
        due.is("8: n 0 lays nothing in year 39", x.curve(39, 0), 305);
    }

    private static void layAtTheEndsOfTheCurve() {
        DatingTable x = new DatingTable();
        x.sheet(0, 3, 60);
        for (int i = 0; i < 60; i++) {
            x.write(0, i, 1000 + i);
        }
        due.is("8: 40 from year 0 on", x.lay(0, 3, 0, 0, 40), 0);
        due.is("8: 41 from year 0 on", x.lay(0, 3, 0, 0, 41), BAD);
        due.is("8: 39 from year 1 on", x.lay(0, 3, 1, 1, 39), 0);
        due.is("8: 40 from year 1 on", x.lay(0, 3, 0, 1, 40), BAD);
        due.is("8: 1 from year 39 on", x.lay(0, 3, 59, 39, 1), 0);
        due.is("8: 2 from year 39 on", x.lay(0, 3, 0, 39, 2), BAD);
        due.is("8: -1 from year 39 on", x.lay(0, 3, 0, 39, -1), BAD);
        due.is("8: the least n", x.lay(0, 3, 0, 0, LEAST), BAD);
        due.is("8: the greatest n", x.lay(0, 3, 0, 0, MOST), BAD);
        for (int year : new int[] {-1, 40, LEAST, MOST}) {
            due.is("8: year " + year, x.lay(0, 3, 0, year, 1), BAD);
            due.is("8: year " + year + ", the greatest n", x.lay(0, 3, 0, year, MOST), BAD);
            due.is("8: year " + year + ", the least n", x.lay(0, 3, 0, year, LEAST), BAD);
        }
        due.is("8: year 0", x.curve(0, 0), 1000);
        due.is("8: year 38", x.curve(38, 0), 1038);
        due.is("8: year 39", x.curve(39, 0), 1059);
    }

    private static void layBelowAndAbove() {
        int[] numbers = {-1, 0, 1, 1999, 2000, 2001, LEAST, MOST};
        int[] counted = {1, 0, 0, 0, 0, 1, 1, 1};
        int[] laid = {0, 0, 1, 1999, 2000, 2000, 0, 2000};
        DatingTable x = new DatingTable();
        x.sheet(0, 3, numbers.length);
        for (int i = 0; i < numbers.length; i++) {
            x.write(0, i, numbers[i]);
            due.is("8: how many of " + numbers[i] + " are below 0 or above 2000", x.lay(0, 3, i, 20, 1), counted[i]);
            due.is("8: as what " + numbers[i] + " counts", x.curve(20, 7), laid[i]);
        }
        due.is("8: how many of all", x.lay(0, 3, 0, 32, numbers.length), 4);
        for (int i = 0; i < numbers.length; i++) {
            due.is("8: all laid at once, " + numbers[i], x.curve(32 + i, 7), laid[i]);
        }
        due.is("8: ahead of the first year", x.curve(31, 7), 345);
        due.is("8: the row is as it was", x.write(0, 0, 0), -1);
    }

    /** What a row holds narrowed is laid as it was narrowed. */
    private static void layOfEachSort() {
        int[] given = {200, 40000, -1, -1};
        int[] laid = {0, 0, 2000, 0};
        for (int sort = 0; sort < 4; sort++) {
            DatingTable x = new DatingTable();
            x.sheet(0, sort, 2);
            x.write(0, 0, given[sort]);
            x.write(0, 1, sort == 0 ? 127 : 2000);
            due.is("8: of SORT " + sort, x.lay(0, sort, 0, 5, 2), 1);
            due.is("8: the first of SORT " + sort, x.curve(5, 0), laid[sort]);
            due.is("8: the second of SORT " + sort, x.curve(6, 0), sort == 0 ? 127 : 2000);
        }
    }

    private static void layOfMissing() {
        DatingTable x = new DatingTable();
        x.sheet(0, 2, 3);
        x.lose(0);
        due.is("8: lost", x.lay(0, 2, 0, 0, 1), NOTHING);
        due.is("8: lost, and it was of another SORT", x.lay(0, 3, 0, 0, 1), NOTHING);
        due.is("8: lost, and it had not so many", x.lay(0, 2, 1, 0, 3), NOTHING);
        due.is("8: NOTHING is one of the host", x.count(4), 3);
        due.is("8: BAD ahead of NOTHING: SORT", x.lay(0, 4, 0, 0, 1), BAD);
        due.is("8: BAD ahead of NOTHING: year", x.lay(0, 2, 0, 40, 0), BAD);
        due.is("8: BAD ahead of NOTHING: n", x.lay(0, 2, 0, 39, 2), BAD);
        due.is("8: BAD is none of the host", x.count(4), 3);
    }

    private static void layOfAnotherSort() {
        for (int sort = 0; sort < 4; sort++) {
            DatingTable x = new DatingTable();
            x.sheet(0, sort, 3);
            x.write(0, 0, 9);
            for (int asked = 0; asked < 4; asked++) {
                int want = asked == sort ? 0 : SORT;
                due.is("8: SORT " + sort + " taken as " + asked, x.lay(0, asked, 0, asked, 1), want);
                due.is("8: the curve behind SORT " + want, x.curve(asked, 0), asked == sort ? 9 : 500 - 5 * asked);
            }
            due.is("8: SORT is one of the host", x.count(4), 3);
            int other = (sort + 1) % 4;
            due.is("8: SORT ahead of PLACE", x.lay(0, other, 3, 0, 1), SORT);
            due.is("8: BAD ahead of SORT: year", x.lay(0, other, 0, -1, 1), BAD);
            due.is("8: BAD ahead of SORT: n", x.lay(0, other, 0, 0, 41), BAD);
            x.sheet(0, other, 3);
            due.is("8: made anew of another SORT", x.lay(0, other, 0, 0, 1), 0);
            due.is("8: and no more of its first one", x.lay(0, sort, 0, 0, 1), SORT);
        }
    }

    private static void layPlacesJustOutside() {
        DatingTable x = new DatingTable();
        x.sheet(0, 3, 5);
        for (int i = 0; i < 5; i++) {
            x.write(0, i, 70 + i);
        }
        int[][] outside = {{0, 6}, {1, 5}, {4, 2}, {5, 1}, {6, 1}, {-1, 1}, {-1, 5}, {-1, 6}, {LEAST, 1}, {LEAST, 40},
            {MOST, 1}, {MOST, 40}, {MOST - 38, 40}};
        for (int[] p : outside) {
            due.is("8: " + p[1] + " from " + p[0] + " on of 5", x.lay(0, 3, p[0], 0, p[1]), PLACE);
        }
        due.is("8: PLACE is one of the host", x.count(4), outside.length);
        due.is("8: BAD ahead of PLACE", x.lay(0, 3, 5, 40, 1), BAD);
        due.is("8: not even those that are there were laid", x.curve(0, 500), 500);
        due.is("8: 5 from 0 on of 5", x.lay(0, 3, 0, 0, 5), 0);
        due.is("8: the last of them", x.curve(4, 0), 74);
        due.is("8: 1 from 4 on of 5", x.lay(0, 3, 4, 0, 1), 0);
        due.is("8: the last place", x.curve(0, 0), 74);
    }

    private static void layBehindTheYears() {
        DatingTable x = new DatingTable();
        x.years(1);
        x.sheet(0, 3, 2);
        x.write(0, 0, 123);
        due.is("8: a year that is none of the YEARS", x.lay(0, 3, 0, 38, 2), 0);
        due.is("8: THE CURVE has it all the same", x.curve(38, 0), 123);
    }
}
