import com.sun.management.ThreadMXBean;
import java.lang.management.ManagementFactory;

/** How much room the calls of one object take: all that it needs is made with it, but for what it throws. */
public final class RoomTest {
    private static final int CALLS = 512;
    // Bytes; the room of 7.3 million elements would be some 29 million.
    private static final long MOST_OF_AN_OBJECT = 100_000;
    private static final long MOST_OF_CALLS = 100_000;

    /** A call on a sorter. */
    private interface Use {
        void of(RecyclingSorter x);
    }

    public static void main(String[] args) {
        Use[] dearest = {RecyclingSorter::settlesAfter, RecyclingSorter::isSettled, RecyclingSorter::sellAll,
            x -> x.run(200), x -> x.seed(1), x -> x.ordered(0), RecyclingSorter::save, RecyclingSorter::restore,
            x -> x.exchange(0, 5), x -> x.account(13), RecyclingSorter::purity, x -> x.stock(0, 3)};
        for (int each = 0; each < dearest.length; each++) {
            Use call = dearest[each];
            RecyclingSorter x = full();
            call.of(x);
            long before = made();
            for (int time = 1; time < CALLS; time++) {
                call.of(x);
            }
            long taken = made() - before;
            Check.due("call " + each + " took " + taken, true, () -> taken <= MOST_OF_CALLS);
        }
        texts();
        new RecyclingSorter();
        long before = made();
        RecyclingSorter one = new RecyclingSorter();
        long taken = made() - before;
        Check.due("an object took " + taken, true, () -> taken <= MOST_OF_AN_OBJECT && one.account(0) == 0);
        Check.end();
    }

    /** As many texts as 512 calls let in, with passes and as long as the buffer is. */
    private static void texts() {
        RecyclingSorter x = full();
        String text = "r200;".repeat(15) + "r200";
        Sorters.perform(x, text);
        long before = made();
        for (int time = 0; time < CALLS / (text.length() + 1); time++) {
            Sorters.perform(x, text);
        }
        long taken = made() - before;
        Check.due("texts took " + taken, true, () -> taken <= MOST_OF_CALLS);
    }

    /** Has six machines, 60 bales, eight contracts, a snapshot and kilos that go round. */
    private static RecyclingSorter full() {
        RecyclingSorter x = Sorters.perfect();
        for (int machine = 1; machine < 6; machine++) {
            x.addMachine(machine % 5, 10, 0, 500, 0);
        }
        x.set(0, 500);
        x.set(2, 10);
        x.feed(0, 700);
        x.run(200);
        for (int contract = 0; contract < 8; contract++) {
            x.contract(0, 1000 - contract, 20, 1);
        }
        x.set(0, 1);
        x.set(1, 99);
        x.feed(1, 250);
        x.save();
        return x;
    }

    private static long made() {
        ThreadMXBean threads = (ThreadMXBean) ManagementFactory.getThreadMXBean();
        return threads.getCurrentThreadAllocatedBytes();
    }
}
