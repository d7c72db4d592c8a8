/** "What it is": all that is promised holds up to the 512th call of an object, however often a call comes. */
public final class LongRunTests extends Tables {
    private static final int CALLS = 512;

    public static void main(String[] args) {
        findingsOfTheHost();
        findsComeAndGo();
        agesComeAndGo();
        textsComeAndGo();
        wrongTextsComeAndGo();
        numbersComeAndGo();
        sheetsComeAndGo();
        keptAndBack();
        pairsTurn();
        sharesStayAlike();
        drawnOneByOne();
        theLastCallOfAll();
        due.end();
    }

    private static void findingsOfTheHost() {
        DatingTable x = new DatingTable();
        for (int call = 1; call < CALLS; call++) {
            due.is("15: drop() of none, call " + call, x.drop(), NOTHING);
        }
        due.is("36: findings of the host ever", x.count(4), CALLS - 1);
    }

    private static void findsComeAndGo() {
        DatingTable x = new DatingTable();
        for (int turn = 0; turn < CALLS / 4; turn++) {
            due.is("9: a find comes, turn " + turn, x.find(turn % 4, 7), 0);
            due.is("11: it is not ODD, turn " + turn, x.odd(0, 9), 0);
            due.is("13: its KIND, turn " + turn, x.of(0, 0), turn % 4);
            due.is("15: it goes, turn " + turn, x.drop(), 0);
        }
    }

    private static void agesComeAndGo() {
        DatingTable x = new DatingTable();
        for (int turn = 0; turn < CALLS / 8; turn++) {
            x.find(1, 450);
            for (int ages = 2; ages <= 5; ages++) {
                due.is("10: AGES, turn " + turn, x.ring(0, 450, turn % 2), ages);
            }
            due.is("10: the sixth, turn " + turn, x.ring(0, 450, 0), BAD);
            due.is("14: its WEIGHT, turn " + turn, x.weight(0, 10), turn % 2 == 0 ? 59049 : 9 * 256);
            x.drop();
        }
    }

    private static void textsComeAndGo() {
        DatingTable x = withBorders(3, 5);
        for (int turn = 0; turn < 250; turn++) {
            boolean isLong = turn % 2 == 0;
            due.is("16: feed(), turn " + turn, x.feed(0x633d3c623c61L, isLong ? 6 : 3), isLong ? 6 : 3);
            due.is("17: text(), turn " + turn, x.text(), isLong ? 2 : 1);
        }
        due.is("18: of the last text", x.total(), 50);
    }

    /** Longer than the tape all together, so that it must be empty behind each. */
    private static void wrongTextsComeAndGo() {
        DatingTable x = withBorders(2, 5);
        for (int turn = 0; turn < 84; turn++) {
            for (int part = 1; part <= 5; part++) {
                due.is("16: feed(), turn " + turn, x.feed(0x3b613b613b613b61L, 8), 8 * part);
            }
            due.is("17: 40 bytes that end too soon, turn " + turn, x.text(), -43);
        }
        due.is("36: WRONG is none of the host", x.count(4), 0);
    }

    private static void numbersComeAndGo() {
        DatingTable x = withBorders(1, 5);
        for (int turn = 0; turn < 250; turn++) {
            due.is("31: tell(), turn " + turn, x.tell(turn % 6), 1);
            due.is("32: number(), turn " + turn, x.number(), turn % 6 == 5 ? BAD : turn % 6);
        }
        due.is("36: none wait", x.count(3), 0);
    }

    private static void sheetsComeAndGo() {
        DatingTable x = new DatingTable();
        for (int turn = 0; turn < CALLS / 4; turn++) {
            int s = turn % 4;
            due.is("5: sheet(), turn " + turn, x.sheet(s, turn / 4 % 4, 60), 60);
            due.is("6: all 0, turn " + turn, x.write(s, 59, 100), 0);
            due.is("8: lay(), turn " + turn, x.lay(s, turn / 4 % 4, 59, turn % 40, 1), 0);
            due.is("7: lose(), turn " + turn, x.lose(s), 1);
        }
    }

    private static void keptAndBack() {
        DatingTable x = withBorders(2, 5);
        for (int turn = 1; turn <= 100; turn++) {
            int years = 1 + turn % 40;
            x.years(years);
            due.is("33: keep(), turn " + turn, x.keep(), 2);
            x.drop();
            due.is("34: back(), turn " + turn, x.back(), 2);
            due.is("18: total(), turn " + turn, x.total(), years * years);
        }
    }

    private static void pairsTurn() {
        DatingTable x = withBorders(7, 5);
        for (int turn = 0; turn < 400; turn++) {
            int i = turn % 7;
            int k = (i + 1 + turn / 7 % 6) % 7;
            int was = turn < 42 ? 0 : (turn / 42 - 1) % 3;
            due.is("12: pair(" + i + ", " + k + "), turn " + turn, x.pair(i, k, turn / 42 % 3), was);
        }
        // The tenth round, of neither, came to 22 of 42: the others are NOT LATER still.
        due.is("36: PAIRS", x.count(2), 20);
    }

    private static void sharesStayAlike() {
        DatingTable x = new DatingTable();
        x.find(0, 450);
        x.find(1, 440);
        x.odd(1, 4);
        x.pair(0, 1, 2);
        long[] first = new long[18];
        for (int turn = 0; turn < 28; turn++) {
            long[] now = {x.total(), x.share(0, 10), x.below(), x.until(1, 12), x.below(), x.order(0, 1), x.below(),
                x.apart(0, 1, 2), x.below(), x.mean(1), x.below(), x.best(0), x.span(1, 500), x.strange(1), x.below(),
                x.without(0), x.below(), x.draw(1000)};
            first = turn == 0 ? now : first;
            for (int at = 0; at < now.length; at++) {
                due.is("18 to 29: answer " + at + " of turn " + turn, now[at], first[at]);
            }
        }
    }

    private static void drawnOneByOne() {
        DatingTable x = withBorders(2, 11);
        for (int number = 0; number < 121; number++) {
            due.is("29: NUMBER " + number, x.draw(number), 1);
            due.is("30: the first find of NUMBER " + number, x.drawn(0), number / 11);
            due.is("30: the second find of NUMBER " + number, x.drawn(1), number % 11);
        }
        due.is("29: behind the last one", x.draw(121), NONE);
    }

    /** All limits are reached by then, and the 512th call still answers as it must. */
    private static void theLastCallOfAll() {
        DatingTable x = new DatingTable();
        for (int i = 0; i < 7; i++) {
            x.find(2, 0);
        }
        feed(x, "a<=b" + ";c".repeat(98));
        for (int n = 0; n < 20; n++) {
            x.tell(0);
        }
        x.years(40);
        for (int call = 54; call < CALLS; call++) {
            x.back();
        }
        due.is("18: the 512th call", x.total(), 163840000000L);
    }
}
