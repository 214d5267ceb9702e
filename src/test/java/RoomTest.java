import com.sun.management.ThreadMXBean;
import java.lang.management.ManagementFactory;

/**
 * All calls of a run live in one room of some 600,000 objects and 7.3 million fields and elements. What a run makes is
 * seen in bytes (the texts that it feeds, too): as no element of the class takes fewer than four of them, a run that
 * makes less than TENTH takes less than a tenth of the room.
 */
public final class RoomTest {
    private static final Check CHECK = new Check();
    private static final ThreadMXBean MEMORY = (ThreadMXBean) ManagementFactory.getThreadMXBean();
    private static final long TENTH = 4L * 730_000;
    private static final String[] SHELVES = {
        "", "glass 7 3;", "glass 7 3;glass 6 5;", "glass 7 3;glass 6 5;glass 5 1;",
        "glass 7 3;glass 6 5;glass 5 1;glass 7 1;", "glass 7 7;glass 6 1;glass 5 5;glass 7 0;price 3 0;price 0 9;"};

    private RoomTest() {
    }

    public static void main(String[] args) {
        long measuring = made(() -> { });
        CHECK.due("a new object takes " + made(SandGlasses::new), made(SandGlasses::new) - measuring < TENTH / 10, true);
        SandGlasses x = new SandGlasses();
        growingShelves(x);
        long again = made(() -> askAll(x));
        CHECK.due("asked again, nothing is made: " + again, again - measuring < 1000, true);
        long run = made(() -> growingShelves(new SandGlasses()));
        CHECK.due("a run takes " + run, run < TENTH, true);
        CHECK.finish();
    }

    private static long made(Runnable run) {
        run.run();
        long before = MEMORY.getCurrentThreadAllocatedBytes();
        run.run();
        return MEMORY.getCurrentThreadAllocatedBytes() - before;
    }

    /** Both shelves grow glass by glass, so that nothing that was made for the one ahead has room for the next. */
    private static void growingShelves(SandGlasses x) {
        for (int i = 0; i < 8; i++) {
            Check.tell(x, i / 2, SandGlasses.NONE, "");
        }
        Check.tell(x, 1, 0, "turn 0;wait 3;lay 1;leak 0;wait 9;");
        Check.tell(x, 2, 0, "quiet 1;ran 0 4;");
        Check.tell(x, 3, 0, "span 9;span 30;");
        for (String text : SHELVES) {
            for (int at = 0; at < 2; at++) {
                Check.tell(x, 0, at, text);
                askAll(x);
            }
            for (int k = 0; k < 3; k++) {
                x.image(k);
                x.again(k);
            }
        }
    }

    private static void askAll(SandGlasses x) {
        for (int at = 0; at < 2; at++) {
            for (int t = 1; t <= 30; t += 7) {
                x.tell(at, t, 0);
                x.tell(at, t, 2);
                x.tell(at, t, 10);
                x.span(at, t);
                x.need(at, t, true);
                x.couples(at, t);
                x.same(at, t);
                x.crowd(at, t);
            }
            askOnce(x, at);
        }
    }

    private static void askOnce(SandGlasses x, int at) {
        for (int what = 0; what < 24; what++) {
            x.times(at, what);
            x.fits(at, 0, 0, what);
            x.state(at, 0, 2, what);
            x.drawn(at, what, 60, what);
        }
        x.purse(at, 9);
        x.apart(at, 1 - at);
        x.plan(at, 0, 2);
        x.wheel(at, 3);
        x.luck(at, 10, true);
        x.duel(at, 4, true);
        x.chance(at, 3, 2, true);
        x.early(at, 5, true);
        x.after(at, 0, 5);
        x.stop(at, 0);
    }
}
