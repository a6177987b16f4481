import com.sun.management.ThreadMXBean;
import java.lang.management.ManagementFactory;

/** All calls of a run live in one room: a new object is small, and no call makes another. */
public final class RoomTest {
    private static final int[] ARGUMENTS = {0, 1, 2, 3, 4, 5, 8, 11, 15, 100, 298, 599, -1, Integer.MIN_VALUE,
        Integer.MAX_VALUE};

    private RoomTest() { }

    public static void main(String[] args) {
        Due due = new Due();
        ThreadMXBean threads = (ThreadMXBean) ManagementFactory.getThreadMXBean();
        long self = Thread.currentThread().getId();
        BuoyReader x = new BuoyReader();
        long sum = useAll(x);
        long ahead = threads.getThreadAllocatedBytes(self);
        for (int i = 0; i < 20; i++) {
            sum += useAll(x);
        }
        long made = threads.getThreadAllocatedBytes(self) - ahead;
        due.is("twenty rounds of all calls make next to nothing", made < 20_000, true);
        ahead = threads.getThreadAllocatedBytes(self);
        for (int i = 0; i < 100; i++) {
            sum += new BuoyReader().count(0);
        }
        made = threads.getThreadAllocatedBytes(self) - ahead;
        due.is("a new object takes less than 16,000 numbers", made < 100L * 4 * 16_000, true);
        System.out.println("sum of all answers " + sum);
        due.end();
    }

    /** Every call with every argument, on a record that is filled, emptied and filled again. */
    private static long useAll(BuoyReader x) {
        long sum = x.forget(x.count(0)) + x.off() + x.off() + x.off() + x.off();
        for (int i = 0; i < 150; i++) {
            sum += x.four(i % 7 == 0 ? 0x8000_0064_FF00_0200L : 0xFF38_0064_FFFF_0005L * (i % 3 == 0 ? 1 : 0));
            sum += x.heave(i % 2 == 0 ? -i : i);
        }
        for (int a : ARGUMENTS) {
            for (int b : ARGUMENTS) {
                sum += use(x, a, b);
            }
        }
        return sum;
    }

    private static long use(BuoyReader x, int a, int b) {
        long sum = x.heave(a) + x.four(((long) a << 32) + b) + (a == 1 ? x.forget(b) : 0);
        sum += (x.set(a, b) ? 1 : 0) + (x.level(a, b) ? 1 : 0) + (x.mark(a, b) ? 1 : 0);
        sum += x.lens(a, b) + (b == 2 ? x.off() : 0) + x.count(a);
        sum += x.sample(a, b) + x.through(a, b) + x.stretch(a, b);
        sum += x.wave(a, b) + x.ranked(a) + x.highest(a, b) + x.freak(a) + x.group(a, b) + x.energy(a);
        sum += (x.name(a, b) ? 1 : 0) + x.named(b) + (a == 4 ? x.unname(b) : 0);
        return sum + x.would(a) + x.quiet(a) + x.gone(a);
    }
}
