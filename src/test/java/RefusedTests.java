import java.util.LinkedHashMap;
import java.util.Map;
import java.util.function.Supplier;
import java.util.function.ToLongFunction;

/**
 * The first sentence of the Terms: a call that answers a finding changes nothing, but where told.
 * Of two objects with the same calls one is asked what it refuses; then all that can be asked must
 * be answered alike by both.
 */
public final class RefusedTests extends Tables {
    public static void main(String[] args) {
        theTablesAreAsMeant();
        yearsAndTheCurve();
        sheets();
        finds();
        fullOnes();
        whatIsCounted();
        whatIsBig();
        whatIsNone();
        givings();
        nothingKeptOrDrawn();
        textEmptiesTheTape();
        numberEmptiesWhatWaits();
        whatOnlyAsksChangesNothing();
        due.end();
    }

    // ---- tables in which nothing is as it is at first

    /** What is kept: one BORDER in 9 YEARS. SHEETS, the tape and numbers that wait have some, too. */
    private static DatingTable started(String tape, int... waiting) {
        DatingTable x = withBorders(1, 9);
        x.curve(5, 333);
        x.miss(8, 2);
        x.odd(0, 2);
        x.keep();
        x.drop();
        x.curve(5, 475);
        x.curve(38, 444);
        x.miss(4, 3);
        x.sheet(0, 0, 5);
        x.write(0, 0, -1);
        x.write(0, 4, 100);
        x.sheet(1, 1, 0);
        x.sheet(2, 3, 6);
        x.write(2, 0, LEAST);
        x.write(2, 5, 470);
        feed(x, tape);
        for (int v : waiting) {
            x.tell(v);
        }
        return x;
    }

    private static DatingTable rich(String tape, int... waiting) {
        DatingTable x = started(tape, waiting);
        x.years(12);
        x.find(0, 450);
        x.find(1, 460);
        x.ring(1, 455, 1);
        x.ring(1, 450, 2);
        x.ring(1, 460, 0);
        x.ring(1, 459, 0);
        x.find(2, 0);
        x.find(3, 4);
        x.odd(0, 2);
        x.odd(2, 3);
        x.pair(2, 3, 2);
        x.pair(3, 0, 1);
        x.draw(100);
        x.share(0, 10);
        return x;
    }

    private static DatingTable rich() {
        return rich("a<=b;c", 4, 5);
    }

    private static DatingTable withoutFinds() {
        DatingTable x = started("a<=b;c", 4, 5);
        x.find(2, 0);
        x.share(0, 0);
        x.drop();
        x.draw(0);
        return x;
    }

    private static DatingTable ofSeven() {
        DatingTable x = rich();
        for (int i = 4; i < 7; i++) {
            x.find(2, 0);
        }
        x.draw(100);
        return x;
    }

    /** BIG only since a GIVING was drawn and a SHARE was answered. */
    private static DatingTable big(int... waiting) {
        DatingTable x = started("a<=b;c", waiting);
        for (int year = 0; year < 9; year++) {
            x.curve(year, 1000);
        }
        x.miss(0, 1);
        for (int i = 0; i < 5; i++) {
            x.find(1, 1000);
            x.ring(i, 1000, 0);
            x.ring(i, 1000, 0);
        }
        x.pair(0, 1, 1);
        x.draw(100);
        x.share(0, 0);
        x.miss(0, 9);
        return x;
    }

    /** Without GIVINGS only since one was drawn and a SHARE was answered. */
    private static DatingTable none(int... waiting) {
        DatingTable x = rich("a<=b;c", waiting);
        x.pair(0, 3, 1);
        return x;
    }

    /** Nothing is kept, nothing was drawn. */
    private static DatingTable fresh() {
        DatingTable x = withBorders(2, 6);
        x.pair(0, 1, 1);
        x.share(0, 0);
        feed(x, "b<=a");
        x.tell(0);
        x.tell(1);
        return x;
    }

    private static void theTablesAreAsMeant() {
        due.holds("18: the rich table has a TOTAL", rich().total() > 100);
        due.is("18: the big one is BIG", big().total(), BIG);
        due.is("18: the one without GIVINGS has none", none().total(), 0);
        due.is("18: the one without finds has 1", withoutFinds().total(), 1);
        for (DatingTable x : new DatingTable[] {rich(), ofSeven(), big(), none()}) {
            due.holds("20: a SHARE was answered", x.below() > 1);
            due.holds("30: a GIVING was drawn", x.drawn(0) >= 0);
        }
        due.is("36: findings of the host so far", rich().count(4), 0);
    }

    // ---- the comparison

    private static void lookAtFinds(DatingTable x, Map<String, Long> seen) {
        int finds = x.count(0);
        int years = x.count(1);
        for (int i = 0; i < finds; i++) {
            for (int what = 0; what <= 5; what++) {
                seen.put("of(" + i + ", " + what + ")", (long) x.of(i, what));
            }
            for (int year = 0; year < years; year++) {
                seen.put("weight(" + i + ", " + year + ")", (long) x.weight(i, year));
            }
        }
        seen.put("total()", x.total());
    }

    private static void lookAtPairs(String when, DatingTable x, Map<String, Long> seen) {
        int finds = x.count(0);
        seen.put(when + "count(2)", (long) x.count(2));
        for (int i = 0; i < finds; i++) {
            for (int k = 0; k < finds; k++) {
                seen.put(when + "pair(" + i + ", " + k + ", 0)", (long) x.pair(i, k, 0));
            }
        }
    }

    private static void lookAtTheCurve(DatingTable x, Map<String, Long> seen) {
        for (int year = 0; year < 40; year++) {
            seen.put("curve(" + year + ", 0)", (long) x.curve(year, 0));
        }
        for (int d = 0; d <= 20; d++) {
            seen.put("miss(" + d + ", 0)", (long) x.miss(d, 0));
        }
    }

    private static void lookAtSheets(DatingTable x, Map<String, Long> seen) {
        for (int s = 0; s < 4; s++) {
            for (int sort = 0; sort < 4; sort++) {
                seen.put("lay(" + s + ", " + sort + ", 0, 0, 0)", (long) x.lay(s, sort, 0, 0, 0));
            }
            for (int i = 0; i <= 6; i++) {
                seen.put("write(" + s + ", " + i + ", 0)", (long) x.write(s, i, 0));
            }
        }
    }

    private static Map<String, Long> allOf(DatingTable x) {
        Map<String, Long> seen = new LinkedHashMap<>();
        for (int what = 0; what < 4; what++) {
            seen.put("count(" + what + ")", (long) x.count(what));
        }
        seen.put("below()", x.below());
        int finds = x.count(0);
        for (int i = 0; i < finds; i++) {
            seen.put("drawn(" + i + ")", (long) x.drawn(i));
        }
        lookAtFinds(x, seen);
        seen.put("bears()", x.bears());
        seen.put("number()", x.number());
        lookAtPairs("", x, seen);
        seen.put("text()", (long) x.text());
        lookAtPairs("behind text(), ", x, seen);
        lookAtSheets(x, seen);
        lookAtTheCurve(x, seen);
        return seen;
    }

    private static Map<String, Long> allThatIsKept(DatingTable x) {
        Map<String, Long> seen = new LinkedHashMap<>();
        seen.put("back()", (long) x.back());
        seen.put("count(1)", (long) x.count(1));
        lookAtFinds(x, seen);
        lookAtPairs("", x, seen);
        lookAtTheCurve(x, seen);
        return seen;
    }

    private static void same(String at, Map<String, Long> got, Map<String, Long> want) {
        due.is(at + ": how much can be asked", got.size(), want.size());
        for (Map.Entry<String, Long> e : want.entrySet()) {
            due.is(at + ", then " + e.getKey(), got.getOrDefault(e.getKey(), Long.MIN_VALUE), e.getValue());
        }
    }

    /** What the made one is behind the call must be what the other one is without it. */
    private static void isThenLike(String call, Supplier<DatingTable> made, ToLongFunction<DatingTable> asked,
        Supplier<DatingTable> other) {
        DatingTable x = made.get();
        asked.applyAsLong(x);
        same(call, allOf(x), allOf(other.get()));
        DatingTable y = made.get();
        asked.applyAsLong(y);
        same(call + ", what is kept", allThatIsKept(y), allThatIsKept(other.get()));
    }

    private static void refused(String call, Supplier<DatingTable> made, ToLongFunction<DatingTable> asked, long finding,
        Supplier<DatingTable> other) {
        DatingTable x = made.get();
        due.is(call, asked.applyAsLong(x), finding);
        due.is(call + ", then count(4)", x.count(4), finding <= NOTHING ? 1 : 0);
        isThenLike(call, made, asked, other);
    }

    private static void refused(String call, Supplier<DatingTable> made, ToLongFunction<DatingTable> asked, long finding) {
        refused(call, made, asked, finding, made);
    }

    private static void ofRich(String call, ToLongFunction<DatingTable> asked, long finding) {
        refused(call, RefusedTests::rich, asked, finding);
    }

    // ---- what is refused

    private static void yearsAndTheCurve() {
        ofRich("2: years(0)", x -> x.years(0), BAD);
        ofRich("2: years(41)", x -> x.years(41), BAD);
        ofRich("3: curve(-1, 1)", x -> x.curve(-1, 1), BAD);
        ofRich("3: curve(40, 1)", x -> x.curve(40, 1), BAD);
        ofRich("3: curve(0, -1)", x -> x.curve(0, -1), BAD);
        ofRich("3: curve(0, 2001)", x -> x.curve(0, 2001), BAD);
        ofRich("4: miss(-1, 1)", x -> x.miss(-1, 1), BAD);
        ofRich("4: miss(21, 1)", x -> x.miss(21, 1), BAD);
        ofRich("4: miss(0, -1)", x -> x.miss(0, -1), BAD);
        ofRich("4: miss(0, 10)", x -> x.miss(0, 10), BAD);
    }

    private static void sheets() {
        ofRich("5: sheet(-1, 0, 1)", x -> x.sheet(-1, 0, 1), BAD);
        ofRich("5: sheet(4, 0, 1)", x -> x.sheet(4, 0, 1), BAD);
        ofRich("5: sheet(0, -1, 1)", x -> x.sheet(0, -1, 1), BAD);
        ofRich("5: sheet(0, 4, 1)", x -> x.sheet(0, 4, 1), BAD);
        ofRich("5: sheet(0, 3, 61)", x -> x.sheet(0, 3, 61), BAD);
        ofRich("5: sheet(0, 3, -1), one that is there", x -> x.sheet(0, 3, -1), SIZE);
        ofRich("5: sheet(3, 3, -1), a MISSING one", x -> x.sheet(3, 3, -1), SIZE);
        ofRich("6: write(4, 0, 1)", x -> x.write(4, 0, 1), BAD);
        ofRich("6: write(3, 0, 1), MISSING", x -> x.write(3, 0, 1), NOTHING);
        ofRich("6: write(0, 5, 1) of 5", x -> x.write(0, 5, 1), PLACE);
        ofRich("6: write(0, -1, 1)", x -> x.write(0, -1, 1), PLACE);
        ofRich("6: write(1, 0, 1) of none", x -> x.write(1, 0, 1), PLACE);
        ofRich("7: lose(-1)", x -> x.lose(-1), BAD);
        ofRich("7: lose(4)", x -> x.lose(4), BAD);
        ofRich("8: lay(4, 3, 0, 0, 1)", x -> x.lay(4, 3, 0, 0, 1), BAD);
        ofRich("8: lay(2, 4, 0, 0, 1)", x -> x.lay(2, 4, 0, 0, 1), BAD);
        ofRich("8: lay(2, 3, 0, 40, 0)", x -> x.lay(2, 3, 0, 40, 0), BAD);
        ofRich("8: lay(2, 3, 0, 38, 3)", x -> x.lay(2, 3, 0, 38, 3), BAD);
        ofRich("8: lay(2, 3, 0, 0, -1)", x -> x.lay(2, 3, 0, 0, -1), BAD);
        ofRich("8: lay(3, 3, 0, 0, 1), MISSING", x -> x.lay(3, 3, 0, 0, 1), NOTHING);
        ofRich("8: lay(2, 0, 0, 0, 1), another SORT", x -> x.lay(2, 0, 0, 0, 1), SORT);
        ofRich("8: lay(2, 3, 4, 0, 3) of 6", x -> x.lay(2, 3, 4, 0, 3), PLACE);
        ofRich("8: lay(2, 3, -1, 0, 3)", x -> x.lay(2, 3, -1, 0, 3), PLACE);
    }

    private static void finds() {
        ofRich("9: find(4, 0)", x -> x.find(4, 0), BAD);
        ofRich("9: find(0, 2001)", x -> x.find(0, 2001), BAD);
        ofRich("9: find(1, -1)", x -> x.find(1, -1), BAD);
        ofRich("9: find(3, 40)", x -> x.find(3, 40), BAD);
        ofRich("10: ring(4, 1, 1)", x -> x.ring(4, 1, 1), BAD);
        ofRich("10: ring(1, 2001, 0)", x -> x.ring(1, 2001, 0), BAD);
        ofRich("10: ring(1, 0, 40)", x -> x.ring(1, 0, 40), BAD);
        ofRich("10: ring(0, 1, 1), another KIND", x -> x.ring(0, 1, 1), SORT);
        ofRich("10: ring(2, 1, 1), another KIND", x -> x.ring(2, 1, 1), SORT);
        ofRich("10: ring(3, 1, 1), another KIND", x -> x.ring(3, 1, 1), SORT);
        ofRich("10: ring(1, 1, 1), it has 5", x -> x.ring(1, 1, 1), BAD);
        ofRich("11: odd(4, 1)", x -> x.odd(4, 1), BAD);
        ofRich("11: odd(0, 10)", x -> x.odd(0, 10), BAD);
        ofRich("11: odd(0, -1)", x -> x.odd(0, -1), BAD);
        ofRich("12: pair(0, 0, 1)", x -> x.pair(0, 0, 1), BAD);
        ofRich("12: pair(0, 4, 1)", x -> x.pair(0, 4, 1), BAD);
        ofRich("12: pair(4, 0, 1)", x -> x.pair(4, 0, 1), BAD);
        ofRich("12: pair(2, 3, 3)", x -> x.pair(2, 3, 3), BAD);
        ofRich("12: pair(2, 3, -1)", x -> x.pair(2, 3, -1), BAD);
        ofRich("13: of(4, 0)", x -> x.of(4, 0), BAD);
        ofRich("13: of(0, 6)", x -> x.of(0, 6), BAD);
        ofRich("14: weight(4, 0)", x -> x.weight(4, 0), BAD);
        ofRich("14: weight(0, 12)", x -> x.weight(0, 12), BAD);
        refused("15: drop() of none", RefusedTests::withoutFinds, x -> x.drop(), NOTHING);
    }

    private static DatingTable withFullTape() {
        return rich("a<=b" + ";c".repeat(98), 4, 5);
    }

    private static DatingTable withTwentyWaiting() {
        return rich("a<=b;c", new int[20]);
    }

    private static void fullOnes() {
        refused("9: find(2, 0), there are 7", RefusedTests::ofSeven, x -> x.find(2, 0), BAD);
        ofRich("16: feed(97, 0)", x -> x.feed(97, 0), BAD);
        ofRich("16: feed(97, 9)", x -> x.feed(97, 9), BAD);
        refused("16: feed(97, 1), there are 200", RefusedTests::withFullTape, x -> x.feed(97, 1), BAD);
        refused("31: tell(3), 20 wait", RefusedTests::withTwentyWaiting, x -> x.tell(3), BAD);
        ofRich("36: count(-1)", x -> x.count(-1), BAD);
        ofRich("36: count(5)", x -> x.count(5), BAD);
    }

    private static void whatIsCounted() {
        ofRich("19: share(4, 0)", x -> x.share(4, 0), BAD);
        ofRich("19: share(0, 12)", x -> x.share(0, 12), BAD);
        ofRich("21: until(4, 0)", x -> x.until(4, 0), BAD);
        ofRich("21: until(0, 12)", x -> x.until(0, 12), BAD);
        ofRich("22: order(4, 0)", x -> x.order(4, 0), BAD);
        ofRich("22: order(0, 4)", x -> x.order(0, 4), BAD);
        ofRich("23: apart(4, 0, 0)", x -> x.apart(4, 0, 0), BAD);
        ofRich("23: apart(0, 1, 40)", x -> x.apart(0, 1, 40), BAD);
        ofRich("24: mean(4)", x -> x.mean(4), BAD);
        ofRich("25: best(4)", x -> x.best(4), BAD);
        ofRich("26: span(4, 500)", x -> x.span(4, 500), BAD);
        ofRich("26: span(0, 1001)", x -> x.span(0, 1001), BAD);
        ofRich("27: strange(4)", x -> x.strange(4), BAD);
        ofRich("28: without(4)", x -> x.without(4), BAD);
    }

    private static void whatIsBig() {
        ofBig("18: total()", x -> x.total());
        ofBig("19: share()", x -> x.share(0, 0));
        ofBig("21: until()", x -> x.until(0, 0));
        ofBig("22: order()", x -> x.order(1, 2));
        ofBig("23: apart()", x -> x.apart(0, 1, 2));
        ofBig("24: mean()", x -> x.mean(0));
        ofBig("25: best()", x -> x.best(0));
        ofBig("26: span()", x -> x.span(0, 500));
        ofBig("27: strange()", x -> x.strange(0));
        ofBig("28: without()", x -> x.without(0));
        ofBig("29: draw()", x -> x.draw(0));
        ofBig("35: bears()", x -> x.bears());
    }

    private static void ofBig(String call, ToLongFunction<DatingTable> asked) {
        refused(call + " of BIG", () -> big(4, 5), asked, BIG);
    }

    private static void whatIsNone() {
        ofNone("19: share()", x -> x.share(0, 0));
        ofNone("21: until()", x -> x.until(0, 0));
        ofNone("22: order()", x -> x.order(1, 2));
        ofNone("23: apart()", x -> x.apart(0, 1, 2));
        ofNone("24: mean()", x -> x.mean(0));
        ofNone("25: best()", x -> x.best(0));
        ofNone("26: span()", x -> x.span(0, 500));
        ofNone("27: strange()", x -> x.strange(0));
        ofNone("28: without()", x -> x.without(1));
        ofNone("29: draw()", x -> x.draw(0));
        refused("35: bears() by 0", RefusedTests::keptNone, x -> x.bears(), NONE);
    }

    private static void ofNone(String call, ToLongFunction<DatingTable> asked) {
        refused(call + " where THE TOTAL is 0", () -> none(4, 5), asked, NONE);
    }

    private static DatingTable keptNone() {
        DatingTable x = none(4, 5);
        x.keep();
        x.pair(0, 3, 0);
        return x;
    }

    private static void givings() {
        ofRich("29: draw(-1)", x -> x.draw(-1), BAD);
        ofRich("29: draw(THE TOTAL)", x -> x.draw(x.total()), NONE);
        ofRich("29: draw() of the greatest", x -> x.draw(Long.MAX_VALUE), NONE);
        ofRich("30: drawn(4)", x -> x.drawn(4), BAD);
        ofRich("30: drawn(-1)", x -> x.drawn(-1), BAD);
    }

    private static void nothingKeptOrDrawn() {
        refused("30: drawn(0), none was", RefusedTests::fresh, x -> x.drawn(0), NOTHING);
        refused("34: back(), nothing is kept", RefusedTests::fresh, x -> x.back(), NOTHING);
        refused("35: bears(), nothing is kept", RefusedTests::fresh, x -> x.bears(), NOTHING);
    }

    private static void textEmptiesTheTape() {
        String[] texts = {"", "?", "a<", "a<=b;c<e", "(a,b,c,d", "a<b<c?", "e"};
        int[] at = {0, 0, 2, 7, 8, 5, 0};
        for (int t = 0; t < texts.length; t++) {
            String text = texts[t];
            DatingTable y = rich(text, 4, 5);
            due.is("17: text() of " + text, y.text(), -3 - at[t]);
            due.is("36: WRONG is none of the host, however low", y.count(4), 0);
            isThenLike("17: text() of " + text, () -> rich(text, 4, 5), x -> x.text(), () -> rich("", 4, 5));
        }
    }

    private static void numberEmptiesWhatWaits() {
        int[][] bad = {{}, {4}, {9, 8, 0}, {9, 8, 0, 4, 0}, {12, 8, 0, 4}, {9, 8, 0, -1}, new int[20]};
        for (int[] waiting : bad) {
            refused("32: number(), BAD of " + waiting.length, () -> rich("a<=b;c", waiting), x -> x.number(), BAD,
                () -> rich("a<=b;c"));
        }
        refused("32: number(), no GIVING", () -> rich("a<=b;c", 9, 8, 5, 4), x -> x.number(), NONE, () -> rich("a<=b;c"));
        refused("32: number(), COUNTS 0", () -> rich("a<=b;c", 9, 8, 3, 3), x -> x.number(), NONE, () -> rich("a<=b;c"));
        refused("32: number(), no GIVINGS", () -> none(9, 8, 0, 4), x -> x.number(), NONE, () -> none());
        refused("32: number() of BIG", () -> big(0, 1, 0, 0, 0), x -> x.number(), BIG, () -> big());
    }

    /** Answers that are no findings: they change what below() tells, and nothing else. */
    private static void whatOnlyAsksChangesNothing() {
        DatingTable x = rich();
        for (int i = 0; i < 4; i++) {
            x.share(i, 4);
            x.until(i, 4);
            x.order(i, 3 - i);
            x.apart(i, 3 - i, 2);
            x.mean(i);
            x.best(i);
            x.span(i, 900);
            x.strange(i);
            x.without(i);
            x.of(i, 4);
            x.weight(i, 9);
            x.drawn(i);
        }
        x.total();
        x.bears();
        x.keep();
        x.lay(2, 3, 0, 0, 0);
        DatingTable y = rich();
        y.keep();
        x.share(0, 10);
        y.share(0, 10);
        same("Terms 2: what only asks", allOf(x), allOf(y));
    }
}
