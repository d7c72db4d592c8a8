import java.lang.management.ManagementFactory;

/** 512 of the dearest calls on one object: they make nothing new, and end soon. */
public final class LoadTests {
    private static final int CALLS = 512;
    /** Far more than the rows of one object, far less than rows made anew by each call. */
    private static final long MOST_BYTES = 400_000;
    private static final double MOST_SECONDS = 60;

    private static final Due due = new Due();
    private static final com.sun.management.ThreadMXBean MADE =
        (com.sun.management.ThreadMXBean) ManagementFactory.getThreadMXBean();

    public static void main(String[] args) {
        String[] names = {"total", "share", "until", "order", "apart", "mean", "best", "span", "strange", "without", "draw",
            "number", "bears", "keep and back", "sheet", "find and drop", "text"};
        for (int which = 0; which < names.length; which++) {
            oneLoad(names[which], which);
        }
        due.end();
    }

    private static DatingTable largest() {
        DatingTable x = new DatingTable();
        x.years(40);
        for (int i = 0; i < 7; i++) {
            x.find(2, 0);
        }
        return x;
    }

    private static void oneLoad(String name, int which) {
        ask(largest(), which, 0);
        long madeBefore = MADE.getThreadAllocatedBytes(Thread.currentThread().getId());
        long begun = System.nanoTime();
        DatingTable x = largest();
        for (int call = 0; call < CALLS - 8; call++) {
            ask(x, which, call);
        }
        double seconds = (System.nanoTime() - begun) / 1e9;
        long made = MADE.getThreadAllocatedBytes(Thread.currentThread().getId()) - madeBefore;
        System.out.println(name + ": " + made + " bytes, " + (int) (seconds * 1000) + " ms");
        due.holds(name + " makes few objects: " + made, made < MOST_BYTES);
        due.holds(name + " ends soon: " + seconds, seconds < MOST_SECONDS);
    }

    private static void ask(DatingTable x, int which, int call) {
        int i = call % 7;
        int k = (call + 1 + call / 7) % 7;
        switch (which) {
            case 0: x.total(); break;
            case 1: x.share(i, call % 40); break;
            case 2: x.until(i, call % 40); break;
            case 3: x.order(i, k); break;
            case 4: x.apart(i, k, call % 3 - 1); break;
            case 5: x.mean(i); break;
            case 6: x.best(i); break;
            case 7: x.span(i, 900); break;
            case 8: x.strange(i); break;
            case 9: x.without(i); break;
            case 10: x.draw(163839999999L - call); break;
            case 11: numberOf(x, call); break;
            case 12: x.keep(); x.bears(); break;
            case 13: x.keep(); x.back(); break;
            case 14: x.sheet(call % 4, call % 4, 60); break;
            case 15: x.drop(); x.find(call % 3, 450); break;
            default: x.feed(0x633d3c623c61L, 6); x.text();
        }
    }

    private static void numberOf(DatingTable x, int call) {
        for (int i = 0; i < 7; i++) {
            x.tell(39 - call % 5);
        }
        x.number();
    }
}
