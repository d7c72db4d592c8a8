import java.lang.management.ManagementFactory;

/** 512 of the dearest calls on one object: they make nothing new, and end soon. */
public final class LoadTests {
    private static final int CALLS = 512;
    private static final int CALLS_OF_LARGEST = 8;
    private static final int MOST_OF_A_TURN = 8;
    /** Far more than the rows of one object, far less than rows made anew by each call. */
    private static final long MOST_BYTES = 400_000;
    private static final double MOST_SECONDS = 60;

    private static final Due due = new Due();
    private static final com.sun.management.ThreadMXBean MADE =
        (com.sun.management.ThreadMXBean) ManagementFactory.getThreadMXBean();

    public static void main(String[] args) {
        String[] names = {"total", "share", "until", "order", "apart", "mean", "best", "span", "strange", "without", "draw",
            "number", "bears", "keep and back", "sheet", "find and drop", "text"};
        for (int which = 0; which < names.length; which++) {
            oneLoad(names[which], which);
        }
        due.end();
    }

    private static DatingTable largest() {
        DatingTable x = new DatingTable();
        x.years(40);
        for (int i = 0; i < 7; i++) {
            x.find(2, 0);
        }
        return x;
    }

    private static void oneLoad(String name, int which) {
        ask(largest(), which, 0);
        long madeBefore = MADE.getThreadAllocatedBytes(Thread.currentThread().getId());
        long begun = System.nanoTime();
        DatingTable x = largest();
        int calls = CALLS_OF_LARGEST;
        for (int turn = 0; calls <= CALLS - MOST_OF_A_TURN; turn++) {
            calls += ask(x, which, turn);
        }
        double seconds = (System.nanoTime() - begun) / 1e9;
        long made = MADE.getThreadAllocatedBytes(Thread.currentThread().getId()) - madeBefore;
        System.out.println(name + ": " + made + " bytes, " + (int) (seconds * 1000) + " ms");
        due.holds(name + " makes few objects: " + made, made < MOST_BYTES);
        due.holds(name + " ends soon: " + seconds, seconds < MOST_SECONDS);
    }

    /** One turn of a sort: how many calls it took. */
    private static int ask(DatingTable x, int which, int turn) {
        int i = turn % 7;
        int k = (turn + 1 + turn / 7) % 7;
        switch (which) {
            case 0: x.total(); return 1;
            case 1: x.share(i, turn % 40); return 1;
            case 2: x.until(i, turn % 40); return 1;
            case 3: x.order(i, k); return 1;
            case 4: x.apart(i, k, turn % 3 - 1); return 1;
            case 5: x.mean(i); return 1;
            case 6: x.best(i); return 1;
            case 7: x.span(i, 900); return 1;
            case 8: x.strange(i); return 1;
            case 9: x.without(i); return 1;
            case 10: x.draw(163839999999L - turn); return 1;
            case 11: return numberOf(x, turn);
            case 12: x.keep(); x.bears(); return 2;
            case 13: x.keep(); x.back(); return 2;
            case 14: x.sheet(turn % 4, turn % 4, 60); return 1;
            case 15: x.drop(); x.find(turn % 3, 450); return 2;
            default: x.feed(0x633d3c623c61L, 6); x.text(); return 2;
        }
    }

    private static int numberOf(DatingTable x, int turn) {
        for (int i = 0; i < 7; i++) {
            x.tell(39 - turn % 5);
        }
        x.number();
        return 8;
    }
}
