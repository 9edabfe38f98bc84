import java.lang.management.ManagementFactory;

/** What a run of calls makes is counted and never given back, so no call but the first image of each number makes any. */
public final class RoomTest {
    /** A made object is some 12,000 fields and elements of 4 to 8 bytes, with the headers of some 900 objects. */
    private static final long MOST_OF_AN_OBJECT = 100_000;
    private static final long MOST_OF_TWO_IMAGES = 16_000;

    private RoomTest() {
    }

    private static long made() {
        return ((com.sun.management.ThreadMXBean) ManagementFactory.getThreadMXBean()).getCurrentThreadAllocatedBytes();
    }

    private static int crowd(GroupLimits x) {
        int sum = x.swap(200);
        for (int g = 1; g < 12; g++) {
            sum += x.group((g - 1) / 2);
            sum += x.limit(g, 1, 10 + g) + x.limit(g, 3, 60 + 9 * g) + x.limit(g, 7, 20);
        }
        for (int p = 0; p < 16; p++) {
            sum += x.process(p % 12, p % 5) + x.charge(p, p % 2, 20 + p) + x.work(p, 50 + p);
        }
        return sum + x.limit(0, 3, 300) + x.limit(0, 2, 250) + x.trigger(1, 4, 2);
    }

    private static int callAll(GroupLimits x) {
        int sum = x.image(0) + x.image(1);
        for (int i = 0; i < 16; i++) {
            sum += x.charge(i, i % 2, 30) + x.use(i, 2) + x.move(i, (i + 3) % 12) + x.uncharge(i, 0, 1);
            sum += x.share(i, 0, i % 2) + x.spare(i, 0, 0, i % 2) + x.next(i, 1, i % 2) + x.taken(i, 0, 50, 1);
            sum += x.would(i, 1, 90) + x.burst(i, 0) + x.stalled(i, 0, 20) + x.place(i) + x.deaths(i, 20);
            sum += x.due(i) + x.weigh(i, 5) + x.pressed(i) + x.units(i, 1) + x.dying(i) + x.of(i, 10) + x.proc(i, 5);
        }
        sum += x.tick(40) + x.idle() + x.worst() + x.undo(3) + x.take(0, 99) + x.kill(3) + x.fork(2) + x.drain(0);
        sum += x.remove(11) + x.group(0) + x.forget() + x.restore(0) + x.image(0) + x.restore(1) + x.count(9);
        return sum;
    }

    public static void main(String[] args) {
        crowd(new GroupLimits());
        long start = made();
        GroupLimits x = new GroupLimits();
        long object = made() - start;
        int sum = crowd(x);
        start = made();
        sum += callAll(x);
        long calls = made() - start;
        System.out.println("an object: " + object + " bytes, all calls on it: " + calls + " bytes (" + sum + ")");
        System.exit(object <= MOST_OF_AN_OBJECT && calls <= MOST_OF_TWO_IMAGES ? 0 : 1);
    }
}
