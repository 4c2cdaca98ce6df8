import java.lang.management.ManagementFactory;

/** Every row is made in the constructor: no call makes an object, and so the room that a run has is kept. */
final class RoomTest {
    public static void main(String[] args) {
        Due due = new Due("RoomTest");
        askAll(new UnlikeUnion());
        UnlikeUnion x = new UnlikeUnion();
        var threads = (com.sun.management.ThreadMXBean) ManagementFactory.getThreadMXBean();
        long own = Thread.currentThread().getId();
        threads.getThreadAllocatedBytes(own);
        long before = threads.getThreadAllocatedBytes(own);
        askAll(x);
        long made = threads.getThreadAllocatedBytes(own) - before;
        due.same("bytes made: " + made + "; these are few", made < 5000, true);
        due.close();
    }

    /** 512 calls at the most. */
    private static void askAll(UnlikeUnion x) {
        for (int job = 0; job < 7; job++) {
            x.addJob(11 + 5 * job, 47 - 3 * job, 20 + job * job % 11);
        }
        for (int round = 0; round < 35; round++) {
            x.setTime(round % 7, round % 3, 1 + round);
            x.assign(round % 7, (round + 1) % 3);
            x.shortest();
            x.shortestByTrying();
            x.numerator(round % 7, round % 3);
            x.denominator(round % 7, round % 3);
            x.isDivided(round % 7);
            x.leastNumerator();
            x.roundedMachine(round % 7);
            x.excess();
            x.improve();
            x.load(round % 3);
            x.takeRounded();
        }
        for (int job = 0; job < 7; job++) {
            x.removeLast();
        }
    }
}
