/** For each promise of the document: ordinary inputs, the edges that it names, and wrong inputs. */
public final class PromiseTests extends Tables {
    public static void main(String[] args) {
        newObject();
        years();
        curve();
        miss();
        sheet();
        write();
        lose();
        lay();
        find();
        ring();
        odd();
        pair();
        of();
        weight();
        drop();
        feed();
        text();
        total();
        totalIsBig();
        share();
        below();
        until();
        order();
        apart();
        mean();
        best();
        span();
        strange();
        without();
        draw();
        drawn();
        tell();
        number();
        keep();
        back();
        bears();
        count();
        due.end();
    }

    private static void newObject() {
        DatingTable x = new DatingTable();
        for (int what = 0; what <= 4; what++) {
            due.is("1: count(" + what + ")", x.count(what), what == 1 ? 30 : 0);
        }
        due.is("1: total()", x.total(), 1);
        due.is("1: below()", x.below(), 1);
        for (int year = 0; year < 40; year++) {
            due.is("1: curve(" + year + ", 0)", x.curve(year, 0), 500 - 5 * year);
        }
        for (int difference = 0; difference <= 20; difference++) {
            due.is("1: miss(" + difference + ", 0)", x.miss(difference, 0), Math.max(0, 9 - difference));
        }
        for (int s = 0; s < 4; s++) {
            due.is("1: lose(" + s + ")", x.lose(s), 0);
        }
        due.is("1: text() of an empty tape", x.text(), -3);
        due.is("1: drawn(0)", x.drawn(0), NOTHING);
        due.is("1: back()", x.back(), NOTHING);
        due.is("1: drop()", x.drop(), NOTHING);
    }

    private static void years() {
        DatingTable x = new DatingTable();
        due.is("2: years(1)", x.years(1), 30);
        due.is("2: years(40)", x.years(40), 1);
        for (int n : new int[] {0, 41, -1, LEAST, MOST}) {
            due.is("2: years(" + n + ")", x.years(n), BAD);
        }
        due.is("2: count(1)", x.count(1), 40);
        x.find(2, 0);
        due.is("2: total() of 40 years", x.total(), 40);
        due.is("2: years(7)", x.years(7), 40);
        due.is("2: total() of 7 years", x.total(), 7);
        due.is("2: weight(0, 6)", x.weight(0, 6), 1);
        due.is("2: weight(0, 7)", x.weight(0, 7), BAD);
    }

    private static void curve() {
        DatingTable x = new DatingTable();
        due.is("3: curve(39, 2000)", x.curve(39, 2000), 305);
        due.is("3: curve(39, 0)", x.curve(39, 0), 2000);
        due.is("3: curve(0, 1)", x.curve(0, 1), 500);
        due.is("3: curve(40, 1)", x.curve(40, 1), BAD);
        due.is("3: curve(-1, 1)", x.curve(-1, 1), BAD);
        due.is("3: curve(0, -1)", x.curve(0, -1), BAD);
        due.is("3: curve(0, 2001)", x.curve(0, 2001), BAD);
        due.is("3: curve(LEAST, MOST)", x.curve(LEAST, MOST), BAD);
        due.is("3: curve(0, 500)", x.curve(0, 500), 1);
        x.find(0, 450);
        x.curve(20, 452);
        due.is("3: weight(0, 20)", x.weight(0, 20), 7);
        due.is("3: weight(0, 10)", x.weight(0, 10), 9);
        x.curve(10, 0);
        due.is("3: weight(0, 10) far off", x.weight(0, 10), 0);
    }

    private static void miss() {
        DatingTable x = new DatingTable();
        due.is("4: miss(20, 7)", x.miss(20, 7), 0);
        due.is("4: miss(0, 0)", x.miss(0, 0), 9);
        due.is("4: miss(0, 9)", x.miss(0, 9), 0);
        due.is("4: miss(21, 1)", x.miss(21, 1), BAD);
        due.is("4: miss(-1, 1)", x.miss(-1, 1), BAD);
        due.is("4: miss(1, 10)", x.miss(1, 10), BAD);
        due.is("4: miss(1, -1)", x.miss(1, -1), BAD);
        due.is("4: miss(MOST, LEAST)", x.miss(MOST, LEAST), BAD);
        due.is("4: miss(1, 8)", x.miss(1, 8), 8);
        x.find(0, 480);
        due.is("4: weight(0, 0), 20 off", x.weight(0, 0), 7);
        due.is("4: weight(0, 8), 20 off", x.weight(0, 8), 7);
        due.is("4: weight(0, 9), 25 off", x.weight(0, 9), 0);
        x.curve(9, 459);
        due.is("4: weight(0, 9), 21 off", x.weight(0, 9), 0);
    }

    private static void sheet() {
        DatingTable x = new DatingTable();
        due.is("5: sheet(0, 0, 60)", x.sheet(0, 0, 60), 60);
        due.is("5: write(0, 59, 5)", x.write(0, 59, 5), 0);
        due.is("5: sheet(3, 3, 0)", x.sheet(3, 3, 0), 0);
        due.is("5: write(3, 0, 5)", x.write(3, 0, 5), PLACE);
        due.is("5: lose(3), of no numbers", x.lose(3), 1);
        int[][] bad = {{-1, 0, 1}, {4, 0, 1}, {0, -1, 1}, {0, 4, 1}, {0, 0, 61}, {0, 0, MOST}, {4, 0, -1}, {0, 4, -1}};
        for (int[] b : bad) {
            due.is("5: sheet(" + b[0] + ", " + b[1] + ", " + b[2] + ")", x.sheet(b[0], b[1], b[2]), BAD);
        }
        due.is("5: count(4) before", x.count(4), 1);
        due.is("5: sheet(0, 3, -1)", x.sheet(0, 3, -1), SIZE);
        due.is("5: sheet(0, 3, LEAST)", x.sheet(0, 3, LEAST), SIZE);
        due.is("5: count(4)", x.count(4), 3);
        due.is("5: write(0, 59, 200) as it was", x.write(0, 59, 200), 5);
        due.is("5: write(0, 59, 0) of bytes", x.write(0, 59, 0), -56);
        x.write(0, 1, 9);
        due.is("5: sheet(0, 2, 2) anew", x.sheet(0, 2, 2), 2);
        due.is("5: write(0, 1, -1), all 0", x.write(0, 1, -1), 0);
        due.is("5: write(0, 1, 0) of chars", x.write(0, 1, 0), 65535);
        due.is("5: write(0, 2, 0)", x.write(0, 2, 0), PLACE);
    }

    private static void write() {
        DatingTable x = new DatingTable();
        int[] narrowed = {112, 4464, 4464, 70000};
        for (int s = 0; s < 4; s++) {
            x.sheet(s, s, 3);
            due.is("6: write(" + s + ", 2, 70000)", x.write(s, 2, 70000), 0);
            due.is("6: write(" + s + ", 2, -1)", x.write(s, 2, -1), narrowed[s]);
            due.is("6: write(" + s + ", 2, 40000)", x.write(s, 2, 40000), s == 2 ? 65535 : -1);
        }
        due.is("6: bytes", x.write(0, 2, 0), 64);
        due.is("6: shorts", x.write(1, 2, 0), -25536);
        due.is("6: chars", x.write(2, 2, 0), 40000);
        due.is("6: ints", x.write(3, 2, LEAST), 40000);
        due.is("6: ints, the least", x.write(3, 2, 0), LEAST);
        due.is("6: write(3, 0, 1)", x.write(3, 0, 1), 0);
        due.is("6: write(-1, 0, 1)", x.write(-1, 0, 1), BAD);
        due.is("6: write(4, 0, 1)", x.write(4, 0, 1), BAD);
        x.lose(1);
        due.is("6: write(1, 9, 1) of a missing one", x.write(1, 9, 1), NOTHING);
        due.is("6: write(3, 3, 1)", x.write(3, 3, 1), PLACE);
        due.is("6: write(3, -1, 1)", x.write(3, -1, 1), PLACE);
        due.is("6: write(3, MOST, 1)", x.write(3, MOST, 1), PLACE);
        due.is("6: write(3, LEAST, 1)", x.write(3, LEAST, 1), PLACE);
        due.is("6: count(4)", x.count(4), 5);
        x.write(3, 0, NOTHING);
        due.is("6: write(3, 0, 0), it was -10", x.write(3, 0, 0), -10);
        due.is("6: count(4) counts no number that was there", x.count(4), 5);
    }

    private static void lose() {
        DatingTable x = new DatingTable();
        due.is("7: lose(0)", x.lose(0), 0);
        x.sheet(0, 1, 2);
        x.sheet(3, 1, 2);
        due.is("7: lose(3)", x.lose(3), 1);
        due.is("7: lose(3) again", x.lose(3), 0);
        due.is("7: write(3, 0, 1)", x.write(3, 0, 1), NOTHING);
        due.is("7: write(0, 0, 1)", x.write(0, 0, 1), 0);
        due.is("7: lose(4)", x.lose(4), BAD);
        due.is("7: lose(-1)", x.lose(-1), BAD);
    }

    private static void lay() {
        DatingTable x = new DatingTable();
        int[] numbers = {-1, 0, 2000, 2001, 77, LEAST, MOST};
        x.sheet(0, 3, 7);
        for (int i = 0; i < 7; i++) {
            x.write(0, i, numbers[i]);
        }
        due.is("8: lay(0, 3, 0, 33, 7)", x.lay(0, 3, 0, 33, 7), 4);
        int[] laid = {0, 0, 2000, 2000, 77, 0, 2000};
        for (int i = 0; i < 7; i++) {
            due.is("8: curve(" + (33 + i) + ", 1)", x.curve(33 + i, 1), laid[i]);
        }
        due.is("8: curve(32, 340)", x.curve(32, 340), 340);
        due.is("8: lay(0, 3, 4, 39, 1)", x.lay(0, 3, 4, 39, 1), 0);
        due.is("8: curve(39, 1)", x.curve(39, 1), 77);
        int[][] bad = {{-1, 3, 0, 0, 1}, {4, 3, 0, 0, 1}, {0, -1, 0, 0, 1}, {0, 4, 0, 0, 1}, {0, 3, 0, -1, 1},
            {0, 3, 0, 40, 0}, {0, 3, 0, 0, -1}, {0, 3, 0, 38, 3}, {0, 3, 0, 0, 41}, {1, 0, 0, 40, 0}, {1, 4, 0, 0, 0},
            {1, 0, 0, 39, 2}, {0, 3, 0, MOST, MOST}, {0, 3, 0, LEAST, MOST}};
        for (int[] b : bad) {
            due.is("8: lay with " + java.util.Arrays.toString(b), x.lay(b[0], b[1], b[2], b[3], b[4]), BAD);
        }
        due.is("8: count(4)", x.count(4), 0);
        due.is("8: lay(1, 3, 0, 0, 0)", x.lay(1, 3, 0, 0, 0), NOTHING);
        due.is("8: lay(0, 2, 99, 0, 1)", x.lay(0, 2, 99, 0, 1), SORT);
        due.is("8: lay(0, 2, 0, 0, 0)", x.lay(0, 2, 0, 0, 0), SORT);
        due.is("8: lay(0, 3, 1, 0, 7)", x.lay(0, 3, 1, 0, 7), PLACE);
        due.is("8: lay(0, 3, -1, 0, 1)", x.lay(0, 3, -1, 0, 1), PLACE);
        due.is("8: lay(0, 3, 7, 0, 1)", x.lay(0, 3, 7, 0, 1), PLACE);
        due.is("8: lay(0, 3, 0, 0, 8)", x.lay(0, 3, 0, 0, 8), PLACE);
        due.is("8: lay(0, 3, MOST, 0, 2)", x.lay(0, 3, MOST, 0, 2), PLACE);
        due.is("8: lay(0, 3, LEAST, 0, 2)", x.lay(0, 3, LEAST, 0, 2), PLACE);
        due.is("8: lay(0, 3, -5, 0, 0)", x.lay(0, 3, -5, 0, 0), 0);
        due.is("8: lay(0, 3, MOST, 39, 0)", x.lay(0, 3, MOST, 39, 0), 0);
        due.is("8: count(4) then", x.count(4), 9);
        due.is("8: curve(0, 1)", x.curve(0, 1), 500);
        x.sheet(1, 0, 40);
        due.is("8: lay(1, 0, 0, 0, 40)", x.lay(1, 0, 0, 0, 40), 0);
        due.is("8: curve(1, 1)", x.curve(1, 1), 0);
    }

    private static void find() {
        DatingTable x = new DatingTable();
        int[][] bad = {{-1, 0}, {4, 0}, {0, -1}, {0, 2001}, {1, -1}, {1, 2001}, {3, -1}, {3, 40}, {LEAST, MOST}};
        for (int[] b : bad) {
            due.is("9: find(" + b[0] + ", " + b[1] + ")", x.find(b[0], b[1]), BAD);
        }
        int[][] good = {{0, 0}, {0, 2000}, {1, 0}, {1, 2000}, {2, LEAST}, {3, 0}, {3, 39}};
        for (int i = 0; i < 7; i++) {
            due.is("9: find " + i, x.find(good[i][0], good[i][1]), i);
            due.is("9: of(" + i + ", 0)", x.of(i, 0), good[i][0]);
            due.is("9: of(" + i + ", 1)", x.of(i, 1), i == 4 ? 0 : good[i][1]);
        }
        due.is("9: an eighth", x.find(2, 0), BAD);
        due.is("9: count(0)", x.count(0), 7);
        x.odd(6, 4);
        x.pair(6, 0, 1);
        x.drop();
        x.find(2, 0);
        due.is("9: a new find is not ODD", x.of(6, 2), 0);
        due.is("9: a new find has no PAIRS", x.count(2), 0);
    }

    private static void ring() {
        DatingTable x = new DatingTable();
        x.find(0, 450);
        x.find(1, 450);
        x.find(2, 0);
        x.find(3, 5);
        int[][] bad = {{4, 1, 1}, {-1, 1, 1}, {1, -1, 1}, {1, 2001, 1}, {1, 1, -1}, {1, 1, 40}, {0, 2001, 1}, {2, 1, 40}};
        for (int[] b : bad) {
            due.is("10: ring(" + b[0] + ", " + b[1] + ", " + b[2] + ")", x.ring(b[0], b[1], b[2]), BAD);
        }
        due.is("10: ring(0, 1, 1)", x.ring(0, 1, 1), SORT);
        due.is("10: ring(2, 1, 1)", x.ring(2, 1, 1), SORT);
        due.is("10: ring(3, 1, 1)", x.ring(3, 1, 1), SORT);
        due.is("10: count(4)", x.count(4), 3);
        due.is("10: ring(1, 440, 3)", x.ring(1, 440, 3), 2);
        // 450 is 0, 5 off in the years 10, 9 and 11; 440 three years later is 5, 0, 10 off.
        due.is("10: weight(1, 10)", x.weight(1, 10), 9 * 4);
        due.is("10: weight(1, 9)", x.weight(1, 9), 4 * 9);
        due.is("10: weight(1, 11)", x.weight(1, 11), 0);
        due.is("10: weight(1, 13)", x.weight(1, 13), 0);
        due.is("10: ring(1, 450, 0)", x.ring(1, 450, 0), 3);
        due.is("10: weight(1, 10) of three", x.weight(1, 10), 9 * 4 * 9);
        due.is("10: ring(1, 2000, 39)", x.ring(1, 2000, 39), 4);
        due.is("10: weight(1, 10), 49 is no year", x.weight(1, 10), 0);
        due.is("10: ring(1, 0, 0)", x.ring(1, 0, 0), 5);
        due.is("10: ring(1, 1, 1), the sixth", x.ring(1, 1, 1), BAD);
        due.is("10: of(1, 3)", x.of(1, 3), 5);
        due.is("10: count(4) then", x.count(4), 3);
        ringsAtTheLastYear();
        ringsMadeAnew();
    }

    private static void ringsAtTheLastYear() {
        DatingTable x = new DatingTable();
        x.find(1, 450);
        x.ring(0, 445, 1);
        x.years(12);
        due.is("10: weight(0, 10), the other in the last year", x.weight(0, 10), 81);
        x.years(11);
        due.is("10: weight(0, 10), the other in no year", x.weight(0, 10), 0);
        due.is("10: weight(0, 9)", x.weight(0, 9), 16);
    }

    private static void ringsMadeAnew() {
        DatingTable x = new DatingTable();
        x.find(1, 450);
        x.ring(0, 445, 1);
        x.drop();
        x.find(1, 450);
        due.is("10: new RINGS have one AGE", x.of(0, 3), 1);
        due.is("10: weight(0, 10) of one", x.weight(0, 10), 9);
        due.is("10: ring(0, 450, 0)", x.ring(0, 450, 0), 2);
        due.is("10: weight(0, 10) of two", x.weight(0, 10), 81);
    }

    private static void odd() {
        DatingTable x = new DatingTable();
        x.find(2, 0);
        x.find(2, 0);
        due.is("11: odd(0, 9)", x.odd(0, 9), 0);
        due.is("11: odd(0, 0)", x.odd(0, 0), 9);
        due.is("11: odd(1, 5)", x.odd(1, 5), 0);
        due.is("11: odd(2, 1)", x.odd(2, 1), BAD);
        due.is("11: odd(-1, 1)", x.odd(-1, 1), BAD);
        due.is("11: odd(0, 10)", x.odd(0, 10), BAD);
        due.is("11: odd(0, -1)", x.odd(0, -1), BAD);
        due.is("11: odd(1, 0)", x.odd(1, 0), 5);
    }

    private static void pair() {
        DatingTable x = withBorders(3, 4);
        due.is("12: pair(0, 1, 1)", x.pair(0, 1, 1), 0);
        due.is("12: total() AHEAD", x.total(), 6 * 4);
        due.is("12: pair(0, 1, 2)", x.pair(0, 1, 2), 1);
        due.is("12: total() NOT LATER", x.total(), 10 * 4);
        due.is("12: pair(1, 0, 2)", x.pair(1, 0, 2), 0);
        due.is("12: total() of the same year", x.total(), 4 * 4);
        due.is("12: pair(1, 0, 1)", x.pair(1, 0, 1), 2);
        due.is("12: total() of what can't be", x.total(), 0);
        due.is("12: count(2)", x.count(2), 2);
        due.is("12: pair(0, 1, 0), the other stays", x.pair(0, 1, 0), 2);
        due.is("12: total() turned", x.total(), 6 * 4);
        due.is("12: pair(1, 0, 0)", x.pair(1, 0, 0), 1);
        due.is("12: pair(1, 0, 0) again", x.pair(1, 0, 0), 0);
        int[][] bad = {{0, 0, 1}, {0, 3, 1}, {3, 0, 1}, {-1, 0, 1}, {0, -1, 1}, {0, 1, 3}, {0, 1, -1}, {3, 3, 1}, {2, 2, 0}};
        for (int[] b : bad) {
            due.is("12: pair(" + b[0] + ", " + b[1] + ", " + b[2] + ")", x.pair(b[0], b[1], b[2]), BAD);
        }
        due.is("12: count(2) then", x.count(2), 0);
    }

    private static void of() {
        DatingTable x = new DatingTable();
        x.find(0, 450);
        x.find(1, 450);
        x.ring(1, 445, 1);
        x.find(2, 123);
        x.find(3, 29);
        x.find(3, 30);
        x.odd(1, 3);
        int[][] want = {{0, 450, 0, 1, 0, 3}, {1, 450, 3, 2, 3, 30}, {2, 0, 0, 0, 1, 30}, {3, 29, 0, 0, 0, 1}, {3, 30, 0, 0, 0, 0}};
        for (int i = 0; i < 5; i++) {
            for (int what = 0; what <= 5; what++) {
                due.is("13: of(" + i + ", " + what + ")", x.of(i, what), want[i][what]);
            }
            due.is("13: of(" + i + ", 6)", x.of(i, 6), BAD);
            due.is("13: of(" + i + ", -1)", x.of(i, -1), BAD);
        }
        due.is("13: of(5, 0)", x.of(5, 0), BAD);
        due.is("13: of(-1, 0)", x.of(-1, 0), BAD);
        // PLAINS of find 0 are 4, 9 and 4: 17 in all.
        x.years(11);
        due.is("13: of(0, 4), 13 by 11", x.of(0, 4), 1);
        x.odd(0, 1);
        due.is("13: of(0, 5) of an odd one", x.of(0, 5), 11);
        due.is("13: of(0, 4), odd or not", x.of(0, 4), 1);
        x.years(17);
        due.is("13: of(0, 4), 17 by 17", x.of(0, 4), 1);
        x.years(18);
        due.is("13: of(0, 4), 17 by 18", x.of(0, 4), 0);
        x.drop();
        x.find(3, 1);
        x.years(1);
        due.is("13: of(4, 4), a year that is not there", x.of(4, 4), 0);
        x.years(2);
        due.is("13: of(4, 4), 1 by 2", x.of(4, 4), 0);
    }

    private static void weight() {
        DatingTable x = new DatingTable();
        x.find(0, 450);
        int[] want = {0, 4, 9, 4, 0};
        for (int year = 8; year <= 12; year++) {
            due.is("14: weight(0, " + year + ")", x.weight(0, year), want[year - 8]);
        }
        due.is("14: weight(0, 29)", x.weight(0, 29), 0);
        due.is("14: weight(0, 30)", x.weight(0, 30), BAD);
        due.is("14: weight(0, -1)", x.weight(0, -1), BAD);
        due.is("14: weight(1, 0)", x.weight(1, 0), BAD);
        due.is("14: weight(-1, 0)", x.weight(-1, 0), BAD);
        x.years(12);
        x.odd(0, 3);
        // The MEAN of 17 over 12 years is 1.
        due.is("14: weight(0, 10), odd by 3", x.weight(0, 10), 7 * 9 + 3);
        due.is("14: weight(0, 0), odd by 3", x.weight(0, 0), 3);
        x.find(2, 0);
        x.odd(1, 9);
        due.is("14: weight(1, 0) of an odd BORDER", x.weight(1, 0), 10);
        x.find(3, 4);
        due.is("14: weight(2, 4)", x.weight(2, 4), 1);
        due.is("14: weight(2, 3)", x.weight(2, 3), 0);
        x.odd(2, 9);
        due.is("14: weight(2, 4), odd by 9", x.weight(2, 4), 1);
    }

    private static void drop() {
        DatingTable x = withBorders(3, 4);
        x.pair(0, 2, 1);
        x.pair(2, 1, 2);
        x.pair(0, 1, 1);
        due.is("15: drop()", x.drop(), 2);
        due.is("15: count(2)", x.count(2), 1);
        x.find(2, 0);
        due.is("15: pair(0, 2, 0)", x.pair(0, 2, 0), 0);
        due.is("15: pair(2, 1, 0)", x.pair(2, 1, 0), 0);
        due.is("15: pair(0, 1, 1)", x.pair(0, 1, 1), 1);
        x.drop();
        x.drop();
        due.is("15: drop() of the last", x.drop(), 0);
        due.is("15: drop() of none", x.drop(), NOTHING);
        due.is("15: count(4)", x.count(4), 1);
        due.is("15: count(0)", x.count(0), 0);
    }

    private static void feed() {
        DatingTable x = withBorders(2, 4);
        for (int n : new int[] {0, 9, -1, LEAST, MOST}) {
            due.is("16: feed(1, " + n + ")", x.feed(1, n), BAD);
        }
        // The lowest byte comes first, and what is above the n lowest ones does not come.
        due.is("16: feed of a<b", x.feed(0x7777777777623c61L, 3), 3);
        due.is("16: text()", x.text(), 1);
        due.is("16: pair(0, 1, 1)", x.pair(0, 1, 1), 1);
        long fill = 0x613b613b613b613bL;
        due.is("16: feed(.., 1)", x.feed(0x61, 1), 1);
        for (int turn = 1; turn <= 24; turn++) {
            due.is("16: feed " + turn, x.feed(fill, 8), 1 + 8 * turn);
        }
        due.is("16: feed past 200", x.feed(fill, 8), BAD);
        due.is("16: feed to 199", x.feed(fill, 6), 199);
        due.is("16: feed of 2 more", x.feed(fill, 2), BAD);
        due.is("16: feed to 200", x.feed(fill, 1), 200);
        due.is("16: feed past 200 again", x.feed(fill, 1), BAD);
        due.is("16: text() of 200 bytes that end with ;", x.text(), -203);
        due.is("16: feed of the empty tape", x.feed(0x61, 1), 1);
        due.is("16: text() of a", x.text(), 0);
        due.is("16: feed of a byte below 0", x.feed(-1L, 8), 8);
        due.is("16: text() of it", x.text(), -3);
    }

    private static void text() {
        DatingTable x = withBorders(4, 6);
        String[] wrong = {"", "e", "a<e", "A", "a<", "a<=", "a=", "a<<b", "a<=<b", "a;", ";a", "a;;b", "(", "(a", "(a,", "(a,)",
            "()", "(a)b", "((a))", "a b", " a", "a<b)", "(a,b<c", "(a<b)", "a,b", "a<(b,c", "a<b;", "a<b;c<", "h", "a>b",
            "a<b\u0000", "a\u00ff", "(a,b)<=(c,h)", "a=<b", "a< =b", "(;", "(<", "ab"};
        int[] at = {0, 0, 2, 0, 2, 3, 1, 2, 3, 2, 0, 2, 1, 2, 3, 3,
            1, 3, 1, 1, 0, 3, 4, 2, 1, 6, 4, 6, 0, 1,
            3, 1, 10, 1, 2, 1, 1, 1};
        x.pair(3, 2, 1);
        for (int t = 0; t < wrong.length; t++) {
            due.is("17: text " + wrong[t], read(x, wrong[t]), -3 - at[t]);
            due.is("17: the tape is empty then", x.text(), -3);
        }
        due.is("17: a wrong text changes nothing", x.pair(3, 2, 1), 1);
        due.is("17: count(2)", x.count(2), 1);
        String[] right = {"a", "(a)", "a<b", "a<=b", "a<b<c<=d", "(a,b)<(c,d)", "a;b;c", "a<b;b<a", "a<b;a<=b", "(a,a)<(b,b,b)",
            "(a,b)<(a,b)", "a<a", "a<=b;a<b;a<=b", "(a,b,c)<=(b,c,d)<a", "d<c;(b)<=(a)", "a<b<a<=b"};
        int[] pairs = {0, 0, 1, 1, 3, 4, 0, 2, 1, 1, 2, 0, 1, 10, 2, 2};
        for (int t = 0; t < right.length; t++) {
            due.is("17: text " + right[t], read(x, right[t]), pairs[t]);
            due.is("17: count(2)", x.count(2), pairs[t]);
        }
        whatTextsTell();
    }

    private static void whatTextsTell() {
        DatingTable x = withBorders(7, 6);
        read(x, "a<b<=c;(d,e)<(f,g);b<c");
        int[][] want = new int[7][7];
        want[0][1] = 1;
        want[1][2] = 1;
        want[3][5] = 1;
        want[3][6] = 1;
        want[4][5] = 1;
        want[4][6] = 1;
        for (int i = 0; i < 7; i++) {
            for (int k = 0; k < 7; k++) {
                if (i != k) {
                    due.is("17: pair(" + i + ", " + k + ", ..)", x.pair(i, k, want[i][k]), want[i][k]);
                }
            }
        }
        read(x, "b<c<=b<=c");
        due.is("17: told last is NOT LATER", x.pair(1, 2, 2), 2);
        due.is("17: what the second is to the first", x.pair(2, 1, 2), 2);
        due.is("17: all is told anew", x.pair(0, 1, 0), 0);
    }

    private static void total() {
        due.is("18: total() without finds", new DatingTable().total(), 1);
        DatingTable x = withBorders(7, 40);
        due.is("18: total() of 7 free ones", x.total(), 163840000000L);
        read(x, "a<b<c<d<e<f<g");
        due.is("18: total() of a chain, 7 of 40", x.total(), 18643560);
        read(x, "g<=f<=e<=d<=c<=b<=a");
        due.is("18: total() of a chain of NOT LATER, 7 of 46", x.total(), 53524680);
        read(x, "a<=b<=c<=d<=e<=f<=g<=a");
        due.is("18: total() of one year for all", x.total(), 40);
        read(x, "a<=b<=c<=d<=e<=f<=g<a");
        due.is("18: total() of a ring", x.total(), 0);
        read(x, "a<b<c<a");
        due.is("18: total() of a ring of three", x.total(), 0);
        read(x, "a<=b<=c;a<c");
        // Three years that rise, less those where all are the same: C(42, 3) - 40, and four free ones.
        due.is("18: total() of NOT LATER and AHEAD", x.total(), (11480 - 40) * 2560000L);
        read(x, "(a,b,c)<d<(e,f,g)");
        long sum = 0;
        for (long year = 0; year < 40; year++) {
            sum += year * year * year * (39 - year) * (39 - year) * (39 - year);
        }
        due.is("18: total() of groups", x.total(), sum);
        x.years(6);
        due.is("18: total() of 6 years", x.total(), 64 + 8 * 27 + 27 * 8 + 64);
        read(x, "a<b<c<d<e<f<g");
        due.is("18: total() of 7 in 6 years", x.total(), 0);
        x.years(7);
        due.is("18: total() of 7 in 7 years", x.total(), 1);
    }

    private static void totalIsBig() {
        DatingTable x = new DatingTable();
        x.years(40);
        for (int year = 0; year < 40; year++) {
            x.curve(year, 100);
        }
        for (int i = 0; i < 3; i++) {
            x.find(1, 100);
            for (int a = 0; a < 4; a++) {
                x.ring(i, 100, 0);
            }
        }
        // Each has a sum of 40 times 9 to the fifth, 2361960.
        due.is("18: three are BIG", x.total(), BIG);
        due.is("18: one of 0 makes the product 0", x.find(3, 39), 3);
        x.years(39);
        due.is("18: total() with a sum of 0", x.total(), 0);
        due.is("18: share() with a sum of 0", x.share(0, 0), NONE);
        due.is("18: without() that is BIG", x.without(3), BIG);
        x.years(40);
        due.is("18: the known year is there", x.total(), BIG);
        x.drop();
        x.drop();
        x.find(0, 100);
        x.find(3, 0);
        // A FIND has a sum of 360, and a KNOWN one of 1.
        due.is("18: below the bound", x.total(), 2361960L * 2361960L * 360L);
        x.pair(0, 1, 1);
        x.pair(1, 0, 1);
        due.is("18: what can't be is 0", x.total(), 0);
        x.find(2, 0);
        due.is("18: BIG is asked of the sums alone", x.total(), BIG);
        atTheBound();
    }

    /** Sums of 125000, 25000, 200, 160 and 40: their product is 4000000000000000. */
    private static void atTheBound() {
        DatingTable x = new DatingTable();
        x.years(40);
        x.miss(0, 5);
        x.miss(1, 4);
        for (int year = 0; year < 40; year++) {
            x.curve(year, 1000);
        }
        x.find(1, 1000);
        for (int a = 0; a < 4; a++) {
            x.ring(0, 1000, 0);
        }
        x.find(1, 1000);
        for (int a = 0; a < 3; a++) {
            x.ring(1, 1000, 0);
        }
        x.find(0, 1000);
        x.find(2, 0);
        x.find(0, 1001);
        due.is("18: the product is the bound", x.total(), 4000000000000000L);
        due.fraction("18: share() at the bound", x, x.share(3, 0), 1, 40);
        due.is("18: span() at the bound", x.span(3, 1000), 39);
        due.is("18: span() of 975 thousandths at the bound", x.span(3, 975), 38);
        due.fraction("18: mean() at the bound", x, x.mean(3), 39, 2);
        due.is("18: draw() at the bound", x.draw(3999999999999999L), 3125L * 625L * 5L * 4L);
        due.is("18: draw() past it", x.draw(4000000000000000L), NONE);
        x.find(3, 0);
        due.is("18: the bound, times 1", x.total(), 4000000000000000L);
        x.odd(5, 1);
        due.is("18: the bound, times 9", x.total(), BIG);
        x.drop();
        x.curve(39, 1001);
        // The sums are now 39 * 3125 + 1024, 39 * 625 + 256, 39 * 5 + 4, 40, 39 * 4 + 5.
        due.is("18: below the bound", x.total(), 122899L * 24631L * 199L * 40L * 161L);
    }

    private static void share() {
        DatingTable x = new DatingTable();
        x.find(0, 450);
        x.find(2, 0);
        due.fraction("19: share(0, 9)", x, x.share(0, 9), 4, 17);
        due.fraction("19: share(0, 10)", x, x.share(0, 10), 9, 17);
        due.fraction("19: share(0, 12)", x, x.share(0, 12), 0, 1);
        due.fraction("19: share(1, 29)", x, x.share(1, 29), 1, 30);
        due.is("19: share(0, 30)", x.share(0, 30), BAD);
        due.is("19: share(0, -1)", x.share(0, -1), BAD);
        due.is("19: share(2, 0)", x.share(2, 0), BAD);
        due.is("19: share(-1, 0)", x.share(-1, 0), BAD);
        due.is("19: below() stays", x.below(), 30);
        x.pair(1, 0, 1);
        // Borders ahead of 9, 10 and 11: 9 * 4 + 10 * 9 + 11 * 4 = 170.
        due.fraction("19: share(0, 11)", x, x.share(0, 11), 22, 85);
        due.fraction("19: share(1, 10)", x, x.share(1, 10), 2, 85);
        due.is("19: share() of the impossible", impossible().share(0, 0), NONE);
        due.is("19: share() of BIG", tooBig().share(0, 0), BIG);
        due.is("19: share() of BIG, no year", tooBig().share(0, 30), BAD);
    }

    private static void below() {
        DatingTable x = withBorders(2, 6);
        due.is("20: below() at first", x.below(), 1);
        x.share(0, 0);
        due.is("20: below()", x.below(), 6);
        x.share(9, 0);
        x.find(3, 39);
        due.is("20: share() is NONE", x.share(0, 0), NONE);
        due.is("20: below() stays", x.below(), 6);
        x.drop();
        x.total();
        x.best(0);
        x.span(0, 500);
        x.draw(0);
        due.is("20: below() after what tells no fraction", x.below(), 6);
        x.keep();
        x.until(0, 1);
        due.is("20: below() of 1/3", x.below(), 3);
        x.back();
        due.is("20: below() after back()", x.below(), 3);
        x.pair(0, 1, 1);
        x.order(1, 0);
        due.is("20: below() of 0", x.below(), 1);
    }

    private static void until() {
        DatingTable x = new DatingTable();
        x.find(0, 450);
        x.find(2, 0);
        due.fraction("21: until(0, 8)", x, x.until(0, 8), 0, 1);
        due.fraction("21: until(0, 9)", x, x.until(0, 9), 4, 17);
        due.fraction("21: until(0, 10)", x, x.until(0, 10), 13, 17);
        due.fraction("21: until(0, 29)", x, x.until(0, 29), 1, 1);
        due.fraction("21: until(1, 0)", x, x.until(1, 0), 1, 30);
        due.fraction("21: until(1, 24)", x, x.until(1, 24), 5, 6);
        due.is("21: until(1, 30)", x.until(1, 30), BAD);
        due.is("21: until(1, -1)", x.until(1, -1), BAD);
        due.is("21: until(2, 0)", x.until(2, 0), BAD);
        due.is("21: until() of the impossible", impossible().until(0, 0), NONE);
        due.is("21: until() of BIG", tooBig().until(0, 0), BIG);
    }

    private static void order() {
        DatingTable x = withBorders(3, 6);
        due.fraction("22: order(0, 1)", x, x.order(0, 1), 5, 12);
        due.fraction("22: order(1, 0)", x, x.order(1, 0), 5, 12);
        due.fraction("22: order(0, 0)", x, x.order(0, 0), 0, 1);
        x.pair(0, 1, 2);
        due.fraction("22: order(0, 1), NOT LATER", x, x.order(0, 1), 5, 7);
        due.fraction("22: order(1, 0), NOT LATER", x, x.order(1, 0), 0, 1);
        due.is("22: the pair stays", x.pair(0, 1, 2), 2);
        x.pair(1, 2, 1);
        x.pair(0, 1, 1);
        due.fraction("22: order(0, 2)", x, x.order(0, 2), 1, 1);
        due.fraction("22: order(2, 0)", x, x.order(2, 0), 0, 1);
        due.is("22: no pair has come", x.count(2), 2);
        due.is("22: order(0, 3)", x.order(0, 3), BAD);
        due.is("22: order(3, 0)", x.order(3, 0), BAD);
        due.is("22: order(-1, 0)", x.order(-1, 0), BAD);
        due.is("22: order(0, -1)", x.order(0, -1), BAD);
        due.is("22: order() of the impossible", impossible().order(0, 0), NONE);
        due.is("22: order() of BIG", tooBig().order(1, 1), BIG);
    }

    private static void apart() {
        DatingTable x = withBorders(3, 6);
        due.fraction("23: apart(0, 1, 0)", x, x.apart(0, 1, 0), 1, 6);
        due.fraction("23: apart(0, 1, 2)", x, x.apart(0, 1, 2), 1, 9);
        due.fraction("23: apart(0, 1, -5)", x, x.apart(0, 1, -5), 1, 36);
        due.fraction("23: apart(0, 1, 6)", x, x.apart(0, 1, 6), 0, 1);
        due.fraction("23: apart(0, 1, 39)", x, x.apart(0, 1, 39), 0, 1);
        due.fraction("23: apart(0, 1, -39)", x, x.apart(0, 1, -39), 0, 1);
        due.fraction("23: apart(1, 1, 0)", x, x.apart(1, 1, 0), 1, 1);
        due.fraction("23: apart(1, 1, 1)", x, x.apart(1, 1, 1), 0, 1);
        x.pair(0, 1, 1);
        due.fraction("23: apart(0, 1, 1)", x, x.apart(0, 1, 1), 1, 3);
        due.fraction("23: apart(1, 0, -1)", x, x.apart(1, 0, -1), 1, 3);
        due.fraction("23: apart(0, 1, 0), AHEAD", x, x.apart(0, 1, 0), 0, 1);
        x.pair(1, 2, 1);
        // Of the 20 rises of three years out of 6, those with 0 and 2 three apart: 2 * 3.
        due.fraction("23: apart(0, 2, 3)", x, x.apart(0, 2, 3), 3, 10);
        int[][] bad = {{0, 1, 40}, {0, 1, -40}, {0, 1, MOST}, {0, 1, LEAST}, {3, 0, 0}, {0, 3, 0}, {-1, 0, 0}, {0, -1, 0}};
        for (int[] b : bad) {
            due.is("23: apart(" + b[0] + ", " + b[1] + ", " + b[2] + ")", x.apart(b[0], b[1], b[2]), BAD);
        }
        due.is("23: apart() of the impossible", impossible().apart(0, 1, 0), NONE);
        due.is("23: apart() of BIG", tooBig().apart(0, 0, 0), BIG);
        DatingTable y = withBorders(2, 40);
        due.fraction("23: apart(0, 1, 39) of 40 years", y, y.apart(0, 1, 39), 1, 1600);
        due.fraction("23: apart(0, 1, -39) of 40 years", y, y.apart(0, 1, -39), 1, 1600);
    }

    private static void mean() {
        DatingTable x = withBorders(2, 6);
        due.fraction("24: mean(0)", x, x.mean(0), 5, 2);
        x.pair(0, 1, 1);
        due.fraction("24: mean(0), AHEAD", x, x.mean(0), 4, 3);
        due.fraction("24: mean(1), AHEAD", x, x.mean(1), 11, 3);
        due.is("24: mean(2)", x.mean(2), BAD);
        due.is("24: mean(-1)", x.mean(-1), BAD);
        x.years(1);
        due.is("24: mean() of none", x.mean(0), NONE);
        x.pair(0, 1, 2);
        due.fraction("24: mean() of year 0", x, x.mean(0), 0, 1);
        due.is("24: mean() of BIG", tooBig().mean(0), BIG);
    }

    private static void best() {
        DatingTable x = new DatingTable();
        x.find(0, 450);
        x.find(2, 0);
        due.is("25: best(0)", x.best(0), 10);
        due.is("25: best(1), the first of many", x.best(1), 0);
        x.pair(0, 1, 2);
        due.is("25: best(1), the first of those behind", x.best(1), 11);
        x.pair(0, 1, 0);
        x.pair(1, 0, 1);
        x.find(3, 10);
        x.pair(0, 2, 1);
        due.is("25: best(0), the only one", x.best(0), 9);
        due.is("25: best(2)", x.best(2), 10);
        due.is("25: best(3)", x.best(3), BAD);
        due.is("25: best(-1)", x.best(-1), BAD);
        due.is("25: best() of the impossible", impossible().best(0), NONE);
        due.is("25: best() of BIG", tooBig().best(0), BIG);
    }

    private static void span() {
        DatingTable x = new DatingTable();
        x.find(0, 450);
        x.find(2, 0);
        // 4, 9, 4 of 17: 235.3 and 529.4, two of them 764.7 thousandths.
        due.is("26: span(0, 1)", x.span(0, 1), 909);
        due.is("26: span(0, 235), the first of several", x.span(0, 235), 909);
        due.is("26: span(0, 236)", x.span(0, 236), 1010);
        due.is("26: span(0, 529)", x.span(0, 529), 1010);
        due.is("26: span(0, 530)", x.span(0, 530), 910);
        due.is("26: span(0, 764)", x.span(0, 764), 910);
        due.is("26: span(0, 765)", x.span(0, 765), 911);
        due.is("26: span(0, 1000)", x.span(0, 1000), 911);
        due.is("26: span(1, 33)", x.span(1, 33), 0);
        due.is("26: span(1, 34)", x.span(1, 34), 1);
        due.is("26: span(1, 100), just enough", x.span(1, 100), 2);
        due.is("26: span(1, 1000)", x.span(1, 1000), 29);
        due.is("26: span(0, 0)", x.span(0, 0), BAD);
        due.is("26: span(0, 1001)", x.span(0, 1001), BAD);
        due.is("26: span(2, 1)", x.span(2, 1), BAD);
        due.is("26: span(-1, 1)", x.span(-1, 1), BAD);
        due.is("26: span() of the impossible", impossible().span(0, 1), NONE);
        due.is("26: span() of BIG", tooBig().span(0, 1), BIG);
    }

    private static void strange() {
        DatingTable x = new DatingTable();
        x.years(12);
        x.find(0, 450);
        x.find(2, 0);
        due.fraction("27: strange(0), not odd", x, x.strange(0), 0, 1);
        x.odd(0, 3);
        // 7 times 17, and 12 times 3 of its being odd.
        due.fraction("27: strange(0)", x, x.strange(0), 36, 155);
        x.odd(1, 2);
        due.fraction("27: strange(1)", x, x.strange(1), 1, 5);
        x.pair(0, 1, 1);
        // Years ahead of a border: 7 * (4 * 2 + 9 * 1) = 119, and 3 times 66.
        due.fraction("27: strange(0), AHEAD", x, x.strange(0), 198, 317);
        due.is("27: strange(2)", x.strange(2), BAD);
        due.is("27: strange(-1)", x.strange(-1), BAD);
        due.is("27: strange() of the impossible", impossible().strange(0), NONE);
        due.is("27: strange() of BIG", tooBig().strange(0), BIG);
    }

    private static void without() {
        DatingTable x = withBorders(3, 6);
        x.pair(0, 1, 1);
        x.pair(1, 2, 1);
        due.fraction("28: without(1), its PAIRS go too", x, x.without(1), 5, 9);
        due.fraction("28: without(0)", x, x.without(0), 4, 3);
        x.pair(0, 2, 2);
        due.fraction("28: without(1), another pair stays", x, x.without(1), 20, 21);
        due.is("28: the find is still there", x.count(0), 3);
        due.is("28: the PAIRS are still there", x.count(2), 3);
        x.pair(2, 0, 1);
        due.is("28: without(1) that is 0", x.without(1), NONE);
        due.fraction("28: without(0) of 0", x, x.without(0), 0, 1);
        due.is("28: without(3)", x.without(3), BAD);
        due.is("28: without(-1)", x.without(-1), BAD);
        DatingTable y = withBorders(1, 6);
        due.fraction("28: without the only one", y, y.without(0), 6, 1);
        due.is("28: without() of BIG", tooBig().without(0), BIG);
    }

    private static void draw() {
        DatingTable x = new DatingTable();
        x.find(3, 2);
        x.find(0, 450);
        x.find(2, 0);
        x.years(11);
        x.pair(1, 2, 2);
        // Find 1 is 9 (COUNTS 4) or 10 (9); find 2 is 9 or 10, or 10.
        long[] counts = {4, 4, 4, 4, 4, 4, 4, 4, 9, 9, 9, 9, 9, 9, 9, 9, 9};
        int[] first = {9, 9, 9, 9, 9, 9, 9, 9, 10, 10, 10, 10, 10, 10, 10, 10, 10};
        int[] second = {9, 9, 9, 9, 10, 10, 10, 10, 10, 10, 10, 10, 10, 10, 10, 10, 10};
        for (int n = 0; n < 17; n++) {
            due.is("29: draw(" + n + ")", x.draw(n), counts[n]);
            due.is("29: drawn(0)", x.drawn(0), 2);
            due.is("29: drawn(1)", x.drawn(1), first[n]);
            due.is("29: drawn(2)", x.drawn(2), second[n]);
        }
        x.draw(0);
        due.is("29: draw(17)", x.draw(17), NONE);
        due.is("29: draw(-1)", x.draw(-1), BAD);
        due.is("29: draw of the least", x.draw(Long.MIN_VALUE), BAD);
        due.is("29: draw of the most", x.draw(Long.MAX_VALUE), NONE);
        due.is("29: THE DRAWN stays", x.drawn(1), 9);
        due.is("29: draw(0) of no finds", new DatingTable().draw(0), 1);
        due.is("29: draw(1) of no finds", new DatingTable().draw(1), NONE);
        due.is("29: draw(0) of the impossible", impossible().draw(0), NONE);
        due.is("29: draw(0) of BIG", tooBig().draw(0), BIG);
        due.is("29: draw(-1) of BIG", tooBig().draw(-1), BAD);
    }

    private static void drawn() {
        DatingTable x = withBorders(2, 6);
        due.is("30: drawn(9), none was", x.drawn(9), NOTHING);
        x.draw(35);
        due.is("30: drawn(0)", x.drawn(0), 5);
        due.is("30: drawn(2)", x.drawn(2), BAD);
        due.is("30: drawn(-1)", x.drawn(-1), BAD);
        x.years(2);
        x.pair(0, 1, 1);
        x.find(9, 9);
        x.back();
        x.keep();
        due.is("30: drawn(1) is as it was", x.drawn(1), 5);
        x.find(2, 0);
        due.is("30: a find came", x.drawn(0), NOTHING);
        due.is("30: draw(0)", x.draw(0), 1);
        due.is("30: drawn(2) of three", x.drawn(2), 0);
        x.drop();
        due.is("30: a find went", x.drawn(0), NOTHING);
        x.draw(0);
        due.is("30: drawn(1)", x.drawn(1), 1);
        x.back();
        due.is("30: back() was done", x.drawn(0), NOTHING);
        due.is("30: count(4)", x.count(4), 5);
        DatingTable y = new DatingTable();
        y.draw(0);
        due.is("30: drawn(0) of no finds", y.drawn(0), BAD);
    }

    private static void tell() {
        DatingTable x = new DatingTable();
        for (int n = 1; n <= 20; n++) {
            due.is("31: tell " + n, x.tell(n % 2 == 0 ? LEAST : MOST), n);
        }
        due.is("31: the 21st", x.tell(0), BAD);
        due.is("31: count(3)", x.count(3), 20);
        due.is("31: number() of 20", x.number(), BAD);
        due.is("31: count(3), none wait", x.count(3), 0);
        due.is("31: tell(0)", x.tell(0), 1);
    }

    private static void number() {
        DatingTable x = new DatingTable();
        x.find(3, 2);
        x.find(0, 450);
        x.find(2, 0);
        x.years(11);
        x.pair(1, 2, 2);
        due.is("32: 2 9 9", numberOf(x, 2, 9, 9), 0);
        due.is("32: 2 9 10", numberOf(x, 2, 9, 10), 4);
        due.is("32: 2 10 10", numberOf(x, 2, 10, 10), 8);
        due.is("32: no GIVING", numberOf(x, 2, 10, 9), NONE);
        due.is("32: COUNTS 0", numberOf(x, 3, 10, 10), NONE);
        due.is("32: none wait then", x.count(3), 0);
        due.is("32: too few", numberOf(x, 2, 9), BAD);
        due.is("32: none wait after BAD", x.count(3), 0);
        due.is("32: too many", numberOf(x, 2, 9, 9, 9), BAD);
        due.is("32: no year", numberOf(x, 2, 9, 11), BAD);
        due.is("32: a year below 0", numberOf(x, -1, 9, 9), BAD);
        due.is("32: none wait after no year", x.count(3), 0);
        due.is("32: number() of no finds", new DatingTable().number(), 0);
        due.is("32: of BIG", numberOf(tooBig(), 0, 0, 0, 0, 0, 0, 0), BIG);
        due.is("32: of BIG, no year", numberOf(tooBig(), 0, 0, 0, 0, 0, 0, 30), BAD);
        due.is("32: of the impossible", numberOf(impossible(), 0, 0), NONE);
        DatingTable y = withBorders(7, 40);
        due.is("32: the last of all", numberOf(y, 39, 39, 39, 39, 39, 39, 39), 163839999999L);
        due.is("32: one in the midst", numberOf(y, 0, 0, 0, 0, 1, 2, 3), 1683);
    }

    private static void keep() {
        DatingTable x = withBorders(2, 6);
        x.pair(0, 1, 1);
        x.odd(1, 3);
        x.find(1, 480);
        x.ring(2, 475, 1);
        due.is("33: keep()", x.keep(), 3);
        x.drop();
        x.find(2, 0);
        x.years(9);
        x.curve(1, 3);
        x.miss(2, 2);
        x.miss(20, 2);
        x.curve(39, 3);
        x.pair(0, 1, 2);
        x.odd(1, 0);
        due.is("33: back()", x.back(), 3);
        due.is("33: the years", x.count(1), 6);
        due.is("33: the curve", x.curve(1, 495), 495);
        due.is("33: the misses", x.miss(2, 7), 7);
        due.is("33: the last one of them", x.miss(20, 3), 0);
        due.is("33: the curve of the last year", x.curve(39, 7), 305);
        due.is("33: the pair", x.pair(0, 1, 1), 1);
        due.is("33: by what it is ODD", x.of(1, 2), 3);
        due.is("33: the KIND", x.of(2, 0), 1);
        due.is("33: the AGES", x.of(2, 3), 2);
        due.is("33: the WEIGHT of RINGS", x.weight(2, 4), 81);
        x.drop();
        x.drop();
        due.is("33: keep() in place of what was", x.keep(), 1);
        x.find(2, 0);
        due.is("33: back() to it", x.back(), 1);
        due.is("33: keep() of a new object", new DatingTable().keep(), 0);
    }

    private static void back() {
        DatingTable x = withBorders(1, 6);
        due.is("34: back(), nothing is kept", x.back(), NOTHING);
        due.is("34: count(4)", x.count(4), 1);
        x.keep();
        x.sheet(0, 3, 2);
        x.write(0, 0, 5);
        x.feed(0x61, 1);
        x.tell(4);
        x.find(1, 480);
        due.is("34: back()", x.back(), 1);
        due.is("34: SHEETS stay", x.write(0, 0, 6), 5);
        due.is("34: the tape stays", x.feed(0x61, 1), 2);
        due.is("34: numbers that wait stay", x.count(3), 1);
        due.is("34: findings of the host stay", x.count(4), 1);
        x.find(1, 480);
        x.ring(1, 475, 1);
        x.years(3);
        due.is("34: back() again, it is still kept", x.back(), 1);
        due.is("34: count(1)", x.count(1), 6);
        x.find(2, 0);
        x.pair(0, 1, 1);
        x.back();
        due.is("34: no PAIRS", x.count(2), 0);
        x.find(2, 0);
        due.is("34: nor of a new find", x.count(2), 0);
        x.odd(0, 5);
        due.is("34: back() once more", x.back(), 1);
        due.is("34: what is kept has not changed with it", x.of(0, 2), 0);
        x.write(3, 0, 0);
        x.back();
        due.is("34: findings of the host are not taken back", x.count(4), 2);
    }

    private static void bears() {
        DatingTable x = withBorders(2, 6);
        due.is("35: bears(), nothing is kept", x.bears(), NOTHING);
        due.is("35: count(4)", x.count(4), 1);
        x.keep();
        due.fraction("35: bears() of the same", x, x.bears(), 1, 1);
        x.pair(0, 1, 1);
        due.fraction("35: bears() AHEAD", x, x.bears(), 5, 12);
        x.years(4);
        due.fraction("35: bears() of fewer years", x, x.bears(), 1, 6);
        x.pair(1, 0, 1);
        due.fraction("35: bears() of what can't be", x, x.bears(), 0, 1);
        x.keep();
        x.pair(1, 0, 0);
        due.is("35: bears(), what is kept is 0", x.bears(), NONE);
        bearsOfBig();
        DatingTable y = new DatingTable();
        y.keep();
        y.find(2, 0);
        due.fraction("35: bears() by no finds", y, y.bears(), 30, 1);
        y.curve(10, 450);
        y.find(0, 450);
        y.keep();
        y.curve(11, 450);
        due.fraction("35: bears() of another curve", y, y.bears(), 22, 17);
        y.back();
        y.miss(0, 5);
        due.fraction("35: bears() of other misses", y, y.bears(), 13, 17);
    }

    private static void bearsOfBig() {
        DatingTable x = tooBig();
        x.keep();
        due.is("35: bears() of BIG, both", x.bears(), BIG);
        for (int i = 0; i < 6; i++) {
            x.drop();
        }
        due.is("35: bears() of BIG that is kept", x.bears(), BIG);
        DatingTable y = impossible();
        y.keep();
        y.drop();
        for (int i = 1; i < 7; i++) {
            y.years(30);
            y.find(1, 450);
            y.ring(i, 445, 1);
            y.ring(i, 450, 0);
        }
        due.is("35: bears() of BIG by 0", y.bears(), BIG);
    }

    private static void count() {
        DatingTable x = withBorders(3, 6);
        x.pair(0, 1, 1);
        x.pair(2, 1, 2);
        x.tell(1);
        x.drawn(0);
        x.sheet(0, 0, -1);
        x.sheet(0, 0, 1);
        x.write(0, 1, 0);
        x.lay(0, 1, 0, 0, 0);
        x.ring(0, 1, 1);
        x.back();
        x.bears();
        due.is("36: count(0)", x.count(0), 3);
        due.is("36: count(1)", x.count(1), 6);
        due.is("36: count(2)", x.count(2), 2);
        due.is("36: count(3)", x.count(3), 1);
        due.is("36: count(4)", x.count(4), 7);
        due.is("36: count(5)", x.count(5), BAD);
        due.is("36: count(-1)", x.count(-1), BAD);
        x.find(9, 9);
        x.share(9, 9);
        x.text();
        due.is("36: BAD, WRONG and NONE are none of the host", x.count(4), 7);
        due.is("36: count(LEAST)", x.count(LEAST), BAD);
    }
}
