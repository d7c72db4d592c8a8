/** The boundary cases that Terms 4 and promises 16 and 17 name. */
public final class TextEdgeTests extends Tables {
    private static final int MOST_BYTES = 200;

    public static void main(String[] args) {
        feedOneToEight();
        feedOfWrongLengths();
        theLowestByteFirst();
        theFullTape();
        tooMuchForTheTape();
        theEmptyTape();
        theTapeIsEmptyThen();
        aTextOfAllBytes();
        aFullTapeThatEndsTooSoon();
        endsTooSoonAtEachPlace();
        eachByteAtTheStart();
        eachByteBehindAName();
        eachByteBehindASign();
        eachByteInAGroup();
        namesWithoutAFind();
        namesOfAllFinds();
        bytesAbove127();
        aFindInBothGroups();
        toldTwice();
        toldBothWays();
        chainsTellNothingOfOneAnother();
        onlyTheNextGroup();
        allPairsAnew();
        wrongChangesNothing();
        due.end();
    }

    private static void feedOneToEight() {
        for (int n = 1; n <= 8; n++) {
            DatingTable x = withBorders(1, 5);
            due.is("16: n " + n, x.feed(0x6161616161616161L, n), n);
            due.is("16: n " + n + " again", x.feed(0x6161616161616161L, n), 2 * n);
            due.is("17: the second byte can't stand there", x.text(), -4);
        }
    }

    private static void feedOfWrongLengths() {
        DatingTable x = withBorders(1, 5);
        for (int n : new int[] {0, 9, -1, LEAST, MOST}) {
            due.is("16: n " + n, x.feed(0x61, n), BAD);
        }
        due.is("16: nothing came", x.feed(0x61, 1), 1);
        due.is("16: BAD is none of the host", x.count(4), 0);
        due.is("17: a alone", x.text(), 0);
    }

    private static void theLowestByteFirst() {
        DatingTable x = withBorders(3, 5);
        due.is("16: the 3 lowest of 8 bytes", x.feed(0xffffffffff623c61L, 3), 3);
        due.is("17: they are a<b", x.text(), 1);
        due.is("12: a is AHEAD of b", x.pair(0, 1, 1), 1);
        due.is("16: all 8 bytes", x.feed(0x633d3c62283d3c61L, 8), 8);
        due.is("17: they are a<=(b<=c: the sixth can't stand there", x.text(), -3 - 5);
        x.feed(0x633d3c623d3c61L, 4);
        due.is("16: the tape goes on behind them", x.feed(0x633d3cL, 3), 7);
        due.is("17: they are a<=b<=c", x.text(), 2);
        due.is("12: b is NOT LATER than c", x.pair(1, 2, 2), 2);
    }

    /** A tape with so many bytes, all of them a. */
    private static DatingTable withTape(int bytes) {
        DatingTable x = withBorders(2, 5);
        feed(x, "a".repeat(bytes));
        return x;
    }

    private static void theFullTape() {
        DatingTable x = withTape(192);
        due.is("16: 8 more, to 200", x.feed(0, 8), 200);
        for (int n = 1; n <= 8; n++) {
            due.is("16: " + n + " more than 200", x.feed(0, n), BAD);
        }
        due.is("16: there would be more than 200 is none of the host", x.count(4), 0);
        due.is("17: the second of 200 can't stand there", x.text(), -4);
        due.is("16: there is room again", x.feed(0, 8), 8);
    }

    private static void tooMuchForTheTape() {
        DatingTable x = withTape(193);
        due.is("16: 8 more, to 201", x.feed(0, 8), BAD);
        due.is("16: none of the 8 came", x.feed(0, 6), 199);
        due.is("16: 2 more, to 201", x.feed(0, 2), BAD);
        due.is("16: 1 more, to 200", x.feed(0, 1), 200);
        due.is("16: 1 more, to 201", x.feed(0, 1), BAD);
    }

    private static void theEmptyTape() {
        due.is("17: the empty tape without finds", new DatingTable().text(), -3);
        DatingTable x = withBorders(2, 5);
        x.pair(0, 1, 2);
        due.is("17: the empty tape ends too soon", x.text(), -3);
        due.is("17: and again", x.text(), -3);
        due.is("17: the PAIRS are as they were", x.pair(0, 1, 2), 2);
        due.is("17: WRONG is none of the host", x.count(4), 0);
    }

    private static void theTapeIsEmptyThen() {
        String[] texts = {"a<b", "a<", "b<<", "?", "(a,b"};
        for (String t : texts) {
            DatingTable x = withBorders(2, 5);
            read(x, t);
            due.is("17: the tape is empty behind " + t, x.feed(0x61, 1), 1);
            due.is("17: and tells what comes then alone", x.text(), 0);
            due.is("17: the empty tape behind that", x.text(), -3);
        }
    }

    private static void aTextOfAllBytes() {
        DatingTable x = withBorders(3, 5);
        due.is("17: 200 bytes, many CHAINS", readFull(x, "a<=b" + ";c".repeat(98)), 1);
        due.is("17: 200 bytes, a great GROUP", readFull(x, "a<=(b" + ",c".repeat(97) + ")"), 2);
        due.is("17: 200 bytes, a long CHAIN", readFull(x, "a<=b" + "<c<a<b<c".repeat(24) + "<c<a"), 3);
        due.is("17: 200 bytes, the last one can't stand there", readFull(x, "a" + ";a".repeat(99) + "b"), -3 - 199);
        due.is("17: 200 bytes, the last one tells", readFull(x, "c<=c" + ";c".repeat(97) + "<b"), 1);
        due.is("12: c is AHEAD of b", x.pair(2, 1, 1), 1);
    }

    private static int readFull(DatingTable x, String text) {
        due.is("the test's own text has 200 bytes", text.length(), MOST_BYTES);
        return read(x, text);
    }

    private static void aFullTapeThatEndsTooSoon() {
        DatingTable x = withBorders(3, 5);
        x.pair(0, 2, 1);
        due.is("17: 200 bytes that end with ;", readFull(x, "a;".repeat(100)), -203);
        due.is("17: 200 bytes that end with <", readFull(x, "a<".repeat(100)), -203);
        due.is("17: 200 bytes that end with <=", readFull(x, "a<=b" + ";c".repeat(97) + "<="), -203);
        due.is("17: 200 bytes that end with (", readFull(x, "a;b" + ";c".repeat(97) + "<=("), -203);
        due.is("17: 200 bytes that end in a GROUP", readFull(x, "(" + "a,".repeat(99) + "a"), -203);
        due.is("17: the PAIRS are as they were", x.pair(0, 2, 1), 1);
        due.is("17: there are no others", x.count(2), 1);
    }

    private static void endsTooSoonAtEachPlace() {
        String[] texts = {"", "(", "(a", "(a,", "(a,b", "a<", "a<=", "a<(", "a<=(", "a<(b", "a<=(b", "a<(b,", "a<(b,c", "a;", "a;(",
            "a;(b", "a;(b,", "a;b<", "a;b<=", "(a)<", "(a)<=", "(a);", "a<b<", "a<b<=", "a<b;", "a<b<(", "(a,b)<(c,d", "(a,b)<="};
        for (String t : texts) {
            DatingTable x = withBorders(4, 5);
            x.pair(3, 0, 1);
            due.is("17: " + t + " ends too soon", read(x, t), -3 - t.length());
            due.is("17: the PAIRS behind " + t, x.pair(3, 0, 1), 1);
            due.is("17: how many behind " + t, x.count(2), 1);
        }
    }

    /**
     * Each of the 256 bytes behind a text: those of the first row end it well, those of the second
     * leave it open, all others are WRONG.
     */
    private static void eachByte(String text, String ends, String goesOn) {
        for (int b = 0; b < 256; b++) {
            DatingTable x = withBorders(3, 5);
            int want = -3 - text.length();
            if (ends.indexOf(b) >= 0) {
                want = text.indexOf('<') >= 0 && b != 'a' ? 1 : 0;
            } else if (goesOn.indexOf(b) >= 0) {
                want = -3 - text.length() - 1;
            }
            due.is("17: byte " + b + " behind " + text, read(x, text + (char) b), want);
        }
    }

    private static void eachByteAtTheStart() {
        eachByte("", "abc", "(");
        eachByte("a;", "abc", "(");
    }

    private static void eachByteBehindAName() {
        eachByte("a", "", "<;");
        eachByte("a<b", "", "<;");
        eachByte("a<=b", "", "<;");
        eachByte("(a)", "", "<;");
        eachByte("(a,b)", "", "<;");
        eachByte("a;b", "", "<;");
    }

    private static void eachByteBehindASign() {
        eachByte("a<", "abc", "=(");
        eachByte("a<=", "abc", "(");
        eachByte("(a)<", "abc", "=(");
        eachByte("(a)<=", "abc", "(");
    }

    private static void eachByteInAGroup() {
        eachByte("(", "", "abc");
        eachByte("(a", ")", ",");
        eachByte("(a,", "", "abc");
        eachByte("(a,b", ")", ",");
        eachByte("a<(", "", "abc");
        eachByte("a<(b", ")", ",");
        eachByte("a<=(", "", "abc");
        eachByte("a;(", "", "abc");
    }

    private static void namesWithoutAFind() {
        for (int finds = 0; finds <= 7; finds++) {
            char none = (char) ('a' + finds);
            String[] texts = {"", "(", "a<", "a<=", "a;", "(a,"};
            for (String t : texts) {
                if (t.isEmpty() || t.equals("(") || finds > 0) {
                    DatingTable x = withBorders(finds, 5);
                    due.is("17: " + none + " of " + finds + " behind " + t, read(x, t + none), -3 - t.length());
                }
            }
        }
        DatingTable x = withBorders(3, 5);
        due.is("17: c of 3", read(x, "a<c"), 1);
        x.drop();
        due.is("17: c of 2, behind drop()", read(x, "a<c"), -3 - 2);
        due.is("17: its PAIR went with it", x.count(2), 0);
    }

    private static void namesOfAllFinds() {
        due.is("17: a of 1", read(withBorders(1, 5), "a"), 0);
        for (int finds = 2; finds <= 7; finds++) {
            DatingTable x = withBorders(finds, 5);
            char last = (char) ('a' + finds - 1);
            due.is("17: " + last + " of " + finds, read(x, "a<=" + last), 1);
            due.is("17: " + last + " is find " + (finds - 1), x.pair(0, finds - 1, 2), 2);
        }
        DatingTable x = withBorders(7, 5);
        due.is("17: h", read(x, "h"), -3);
        due.is("17: capital letters", read(x, "a<B"), -5);
    }

    private static void bytesAbove127() {
        DatingTable x = withBorders(7, 5);
        String[] texts = {"\u00e1", "a\u00bc", "a<\u00e2", "(\u00e1", "(a\u00ac", "(a\u00a9", "a\u00bb", "a<\u00bdb", "\u00ff", "\u0080",
            "a<b\u00ff"};
        int[] at = {0, 1, 2, 1, 2, 2, 1, 2, 0, 0, 3};
        for (int t = 0; t < texts.length; t++) {
            due.is("17: a sign with its highest bit set, text " + t, read(x, texts[t]), -3 - at[t]);
        }
        due.is("16: a word below 0", x.feed(Long.MIN_VALUE | 0x61, 8), 8);
        due.is("17: the byte 0 behind a", x.text(), -4);
        due.is("16: all bits set", x.feed(-1, 8), 8);
        due.is("17: the byte 255", x.text(), -3);
    }

    private static void aFindInBothGroups() {
        DatingTable x = withBorders(3, 5);
        due.is("17: a<a", read(x, "a<a"), 0);
        due.is("17: a<=a", read(x, "a<=a"), 0);
        due.is("18: nothing is told of itself", x.total(), 125);
        due.is("17: (a,b)<(b,c)", read(x, "(a,b)<(b,c)"), 3);
        due.is("12: a to b", x.pair(0, 1, 1), 1);
        due.is("12: a to c", x.pair(0, 2, 1), 1);
        due.is("12: b to c", x.pair(1, 2, 1), 1);
        due.is("17: (a,b)<=(a,b)", read(x, "(a,b)<=(a,b)"), 2);
        due.is("12: a to b, NOT LATER", x.pair(0, 1, 2), 2);
        due.is("12: b to a, NOT LATER", x.pair(1, 0, 2), 2);
        due.is("18: the same year for both", x.total(), 25);
        due.is("17: all in both", read(withBorders(7, 5), "(a,b,c,d,e,f,g)<(a,b,c,d,e,f,g)"), 42);
    }

    private static void toldTwice() {
        String[] texts = {"a<b;a<=b", "a<=b;a<b", "a<b;a<b", "a<=b;a<=b", "a<b<=a<=b", "a<=b<=a<b", "(a,a)<b;(a)<=(b,b)", "a<b;c;a<=b",
            "a<=b<c;a<b<c", "a<b;(a,c)<=(b,d)"};
        int[] how = {2, 1, 1, 2, 2, 1, 2, 2, 1, 2};
        int[] pairs = {1, 1, 1, 1, 2, 2, 1, 1, 2, 4};
        for (int t = 0; t < texts.length; t++) {
            DatingTable x = withBorders(4, 5);
            due.is("17: PAIRS of " + texts[t], read(x, texts[t]), pairs[t]);
            due.is("17: what is told last in " + texts[t], x.pair(0, 1, how[t]), how[t]);
        }
        due.is("17: a NAME twice in a GROUP", read(withBorders(2, 5), "(a,a,a)<(b,b)"), 1);
    }

    private static void toldBothWays() {
        DatingTable x = withBorders(2, 5);
        due.is("17: a<b;b<=a", read(x, "a<b;b<=a"), 2);
        due.is("17: the first way stays", x.pair(0, 1, 1), 1);
        due.is("17: and so does the other", x.pair(1, 0, 2), 2);
        due.is("18: which can't be", x.total(), 0);
        due.is("17: a<=b<=a", read(x, "a<=b<=a"), 2);
        due.is("18: the same year", x.total(), 5);
    }

    private static void chainsTellNothingOfOneAnother() {
        DatingTable x = withBorders(4, 5);
        due.is("17: a;b", read(x, "a;b"), 0);
        due.is("17: a<b;c<d", read(x, "a<b;c<d"), 2);
        due.is("12: b to c", x.pair(1, 2, 0), 0);
        due.is("17: a<b;c<=d;a", read(x, "a<b;c<=d;a"), 2);
        due.is("12: d to a", x.pair(3, 0, 0), 0);
        due.is("12: c to d", x.pair(2, 3, 2), 2);
        due.is("17: a<b;a;b", read(x, "a<b;a;b"), 1);
        due.is("12: a ; between two takes nothing back", x.pair(0, 1, 1), 1);
    }

    private static void onlyTheNextGroup() {
        DatingTable x = withBorders(7, 5);
        due.is("17: each to the next one alone", read(x, "a<b<=c<d<=e<f<=g"), 6);
        due.is("12: a to c", x.pair(0, 2, 0), 0);
        due.is("12: f to g", x.pair(5, 6, 2), 2);
        due.is("17: each of a GROUP", read(x, "(a,b,c)<(d,e)<=(f,g)"), 10);
        due.is("12: c to e", x.pair(2, 4, 1), 1);
        due.is("12: e to g", x.pair(4, 6, 2), 2);
        due.is("12: a to b, of one GROUP", x.pair(0, 1, 0), 0);
        due.is("12: a to f", x.pair(0, 5, 0), 0);
        due.is("12: d to a", x.pair(3, 0, 0), 0);
    }

    private static void allPairsAnew() {
        DatingTable x = withBorders(3, 5);
        x.pair(2, 0, 1);
        due.is("17: a TEXT tells all PAIRS anew", read(x, "a<b"), 1);
        due.is("17: what was told by hand is gone", x.pair(2, 0, 0), 0);
        due.is("17: a TEXT of one NAME tells that there are none", read(x, "c"), 0);
        due.is("36: none", x.count(2), 0);
        due.is("12: what was told by text is gone", x.pair(0, 1, 0), 0);
    }

    private static void wrongChangesNothing() {
        DatingTable x = withBorders(3, 5);
        x.pair(2, 0, 1);
        due.is("17: right but for its last byte", read(x, "a<b;b<=c?"), -3 - 8);
        due.is("17: nothing of it was told", x.count(2), 1);
        due.is("17: nor was a PAIR forgotten", x.pair(2, 0, 1), 1);
        due.is("17: the next text begins anew", read(x, "b<c"), 1);
        due.is("12: it tells what it tells alone", x.pair(0, 1, 0), 0);
        due.is("36: WRONG is none of the host", x.count(4), 0);
    }
}
