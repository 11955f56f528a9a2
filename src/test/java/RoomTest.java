import java.lang.management.ManagementFactory;

/** What a run makes stays in one room: a call that throws nothing makes no object and no array. */
final class RoomTest {
    private static final Checks CHECKS = new Checks("RoomTest");
    private static final int CALLS = 512;

    public static void main(String[] args) {
        BallotLoom x = new BallotLoom();
        for (int k = 0; k < 6; k++) {
            x.candidate(k % 4);
        }
        for (int k = 0; k < 4; k++) {
            x.district(k + 2);
        }
        int[] ranks = {654321, 123456, 345612, 21, 365, 46};
        for (int k = 0; k < 24; k++) {
            x.cast(k % 4, ranks[k % ranks.length], 500 - 17 * k);
        }
        callAll(x, CALLS);
        made(x, 1);
        long once = made(x, 1);
        long often = made(x, 1 + CALLS);
        CHECKS.due("bytes that " + CALLS + " rounds of calls make", often - once, 0);
        CHECKS.finish();
    }

    private static long made(BallotLoom x, int rounds) {
        com.sun.management.ThreadMXBean threads =
                (com.sun.management.ThreadMXBean) ManagementFactory.getThreadMXBean();
        long self = Thread.currentThread().getId();
        long before = threads.getThreadAllocatedBytes(self);
        callAll(x, rounds);
        return threads.getThreadAllocatedBytes(self) - before;
    }

    private static void callAll(BallotLoom x, int rounds) {
        for (int k = 0; k < rounds; k++) {
            x.recount(k % 24, 1 + k % 500);
            x.move(k % 24, k % 4);
            x.threshold(k % 21);
            x.pair(k % 4, k % 3, 3, true);
            x.share(k % 4, 60, k % 3);
            x.overhang(60, k % 3);
            x.gap(0, 1);
            x.wouldWin(k % 24, 123, k % 4);
            x.lie(k % 24, k % 4);
            x.digest();
        }
    }
}
