import com.sun.management.ThreadMXBean;
import java.lang.management.ManagementFactory;

/** All calls of a run live in one room: an object makes its arrays once, and no call makes any. */
public final class RoomTest {
    private static final ThreadMXBean THREADS = (ThreadMXBean) ManagementFactory.getThreadMXBean();

    public static void main(String[] args) {
        Due due = new Due("room");
        long before = bytes();
        due.it = new TermStrategies();
        long made = bytes() - before;
        due.rule("i(i(u,v),w)", "i(u,i(v,w))");
        due.rule("a", "e(a)");
        due.term("i(i(i(i(i(a,b),c),u),e(v)),i(i(a,b),c))");
        due.term("i(a,i(u,e(u)))");
        int both = due.it.strategy(4, due.it.strategy(0, 0, 0), due.it.strategy(0, 1, 0));
        int inner = due.it.strategy(12, 0, 0);
        int up = due.it.strategy(9, due.it.strategy(5, both, 0), 0);
        due.it.commute('i', true);
        calls(due.it, inner, up);
        before = bytes();
        for (int k = 0; k < 20; k++) {
            calls(due.it, inner, up);
        }
        long more = bytes() - before;
        due.is("an object has fewer than 120 KiB, which it hasn't: it", made > 120 << 10 ? made : 0, 0);
        due.is("calls make nothing, but these: they", more > 2 << 10 ? more : 0, 0);
        Due.end();
    }

    private static long bytes() {
        return THREADS.getThreadAllocatedBytes(Thread.currentThread().getId());
    }

    private static void calls(TermStrategies it, int inner, int up) {
        it.image();
        it.run(inner, 0);
        it.replay(0, it.status(6));
        it.run(up, 0);
        it.trial(up, 1, 2);
        it.redexes(0);
        it.fits(0, 0, 2);
        it.rewrite(0, 0, 0);
        it.bound(1, 1, 'u', 0);
        it.unify(1, 1);
        it.overlaps(0, 0);
        it.overlap(0, 0, 0, 2);
        it.meets(0, 0, 0);
        it.same(0, 1);
        it.path(0, 5);
        it.termOf(0, 1);
        it.row(0, 3, 160);
        it.judge(0, up, 80);
        it.copy(0, 0, 0, 80, 80);
        it.term(0);
        it.days(40);
        it.restore();
    }
}
