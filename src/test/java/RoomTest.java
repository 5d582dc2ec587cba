import com.sun.management.ThreadMXBean;
import java.lang.management.ManagementFactory;

/** Calls make no objects: what they need is made in the constructor, and that is little. */
public final class RoomTest {
    private static final int CALLS = 512;
    private static final long MOST_OF_ONE_OBJECT = 40_000;
    private static final long MOST_OF_ALL_CALLS = 200_000;

    private static long sink = 0;

    public static void main(String[] args) {
        ThreadMXBean threads = (ThreadMXBean) ManagementFactory.getThreadMXBean();
        long id = Thread.currentThread().getId();
        useAll(crowded());
        long start = threads.getThreadAllocatedBytes(id);
        ToldWhereItWas x = crowded();
        long made = threads.getThreadAllocatedBytes(id);
        for (int i = 0; i < CALLS; i++) {
            useAll(x);
        }
        long used = threads.getThreadAllocatedBytes(id);
        boolean fine = made - start <= MOST_OF_ONE_OBJECT && used - made <= MOST_OF_ALL_CALLS;
        if (!fine) {
            System.out.println("an object takes " + (made - start) + " bytes, its calls " + (used - made) + ", sink " + sink);
            System.exit(1);
        }
    }

    private static ToldWhereItWas crowded() {
        ToldWhereItWas x = new ToldWhereItWas();
        for (int p = 0; p < 7; p++) {
            x.keep(0, 1, p, 9);
            x.comes(0, p % 5);
        }
        return x;
    }

    /** All but those that throw; an exception is an object by its nature. */
    private static void useAll(ToldWhereItWas x) {
        x.row(1, 0, 4);
        x.put(1, 0, 'd');
        x.put(1, 1, '0');
        x.put(1, 2, '1');
        x.put(1, 3, ';');
        x.row(2, 2, 7);
        x.copy(2, 0, 2, 3, 4);
        sink += x.town(1) + x.one(0, 4) + x.thing(0, 2) + x.story(0, 0, 1) + x.comes(0, 0) + x.learns(0, 0, 3);
        sink += x.cares(0, 1) + x.gives(0, 1) + x.past(0, 7) + x.days(1) + x.ownerThen(0, 60) + x.storyThen(0, 0, 60);
        sink += x.ownsThen(0, 60, 1) + x.when(0, 4) + x.loses(1) + x.lookAfter(0, 60, 0) + x.win(0, 1) + x.ask(0, 1);
        sink += x.care(4) + x.richest(3) + x.common(0, 3) + x.whatIs(2, 0, 1) + x.whichPast(2, 0, 0) + x.two(0, 1, 2, 30);
        sink += x.floods(0, 0, 7, 20, 1) + x.share(0, 0) + x.forged(2) + x.judge(2, 0) + x.years(20, 5, 0) + x.image();
        sink += x.restore() + x.count(4) + x.keep(3, 1, 1, 1) + x.element(2, 0) + x.cost(3);
    }
}
