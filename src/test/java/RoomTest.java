import com.sun.management.ThreadMXBean;
import java.lang.management.ManagementFactory;

/** The room that a run has: calls make no objects, and a new object is a small one. */
public final class RoomTest {
    // Far below one byte a call: what the machine itself may need for its own.
    private static final long SLACK = 20000;
    private static long sum = 0;

    public static void main(String[] args) {
        ThreadMXBean threads = (ThreadMXBean) ManagementFactory.getThreadMXBean();
        RingArticles x = Check.crew(Check.CREW);
        everyCall(x);
        everyCall(x);
        long before = threads.getCurrentThreadAllocatedBytes();
        for (int i = 0; i < 1000; i++) {
            everyCall(x);
        }
        long made = threads.getCurrentThreadAllocatedBytes() - before;
        Check.due("bytes made by calls: " + made, 1, made <= SLACK ? 1 : 0);

        RingArticles[] many = new RingArticles[100];
        before = threads.getCurrentThreadAllocatedBytes();
        for (int i = 0; i < many.length; i++) {
            many[i] = new RingArticles();
        }
        long each = (threads.getCurrentThreadAllocatedBytes() - before) / many.length;
        Check.due("bytes of a new object: " + each, 1, each <= SLACK ? 1 : 0);
        Check.due("something was answered", 1, sum != 0 ? 1 : 0);
        Check.end();
    }

    private static void everyCall(RingArticles x) {
        x.clear();
        for (int i = 0; i < Check.CREW.length(); i++) {
            sum += x.type(Check.CREW.charAt(i));
        }
        sum += x.articles();
        for (int i = -1; i < 6; i++) {
            sum += x.chases(i) + x.hides(i, 3) + x.shares() + x.votes(i) + x.finds(i) + x.undo();
            sum += x.hand(i, 3) + x.ship(i, 2) + x.piece(i) + x.now(i) + x.due(i) + x.holds(i) + x.deal(i);
            sum += x.raid(i) + x.odds(i, 4, 0) + x.won(i) + x.split(i) + x.band(i) + x.saw(15, i) + x.keen();
            sum += x.mark(i, 1) + x.keep(i) + x.back(i) + x.count(i) + x.trace() + x.forget() + x.maroons(i);
        }
    }
}
