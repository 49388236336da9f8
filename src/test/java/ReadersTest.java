/** Promises 9 to 17. */
public final class ReadersTest {
    private static final int NONE = CapacityQueues.NONE;
    private static final int[] WRONG_QUEUES = {-1, 5, 6, 15, 16, 17, Integer.MIN_VALUE, Integer.MAX_VALUE};
    private static final int[] WRONG_USERS = {-1, 4, 5, Integer.MIN_VALUE, Integer.MAX_VALUE};
    private static final Check check = new Check();

    public static void main(String[] args) {
        queueCountCounts();
        readersOfAQueue();
        readersOfALeafAndUser();
        readersOfAFreshObject();
        readersOfSixteenQueues();
        queueThatWasALeaf();
        userLimitAnswers();
        containerInfoAnswers();
        containerInfoAtTheEnds();
        containerInfoOfGoneOnes();
        readersChangeNothing();
        check.end();
    }

    /** Root 0 with children 1 and 2; 3 and 4 below 1. Leaf 2 holds 2 units, leaf 3 holds 5, leaf 4 holds 3. */
    private static CapacityQueues loaded() {
        CapacityQueues x = new CapacityQueues(12, 3);
        x.addQueue(0, 8, 11);
        x.addQueue(0, 2, 2);
        x.addQueue(1, 5, 10);
        x.addQueue(1, 1, 3);
        x.submit(2, 0, 7);
        x.submit(3, 1, 9);
        x.submit(3, 2, 2);
        x.submit(4, 3, 4);
        x.schedule();
        return x;
    }

    private static void queueCountCounts() {
        CapacityQueues x = new CapacityQueues(4, 4);
        for (int q = 1; q < CapacityQueues.MAX_QUEUES; q++) {
            check.due("queueCount()", x.queueCount(), q);
            x.addQueue(q / 2, 0, 4);
        }
        check.due("queueCount()", x.queueCount(), 16);
        x.addQueue(0, 0, 4);
        check.due("queueCount() after a refused addQueue", x.queueCount(), 16);
        for (int q = 1; q < CapacityQueues.MAX_QUEUES; q++) {
            check.due("parentOf(" + q + ")", x.parentOf(q), q / 2);
        }
    }

    private static void readersOfAQueue() {
        CapacityQueues x = loaded();
        int[] parents = {-1, 0, 0, 1, 1};
        int[] guarantees = {12, 8, 2, 5, 1};
        int[] maximums = {12, 11, 2, 10, 3};
        int[] usages = {10, 8, 2, 5, 3};
        for (int q = 0; q < 5; q++) {
            check.due("parentOf(" + q + ")", x.parentOf(q), parents[q]);
            check.due("guarantee(" + q + ")", x.guarantee(q), guarantees[q]);
            check.due("maxCapacity(" + q + ")", x.maxCapacity(q), maximums[q]);
            check.due("used(" + q + ")", x.used(q), usages[q]);
        }
        for (int q : WRONG_QUEUES) {
            check.due("parentOf(" + q + ")", x.parentOf(q), NONE);
            check.due("guarantee(" + q + ")", x.guarantee(q), NONE);
            check.due("maxCapacity(" + q + ")", x.maxCapacity(q), NONE);
            check.due("used(" + q + ")", x.used(q), NONE);
        }
    }

    private static void readersOfALeafAndUser() {
        CapacityQueues x = loaded();
        int[][] pending = {{0, 0, 0, 0}, {0, 0, 0, 0}, {5, 0, 0, 0}, {0, 6, 0, 0}, {0, 0, 0, 1}};
        int[][] held = {{0, 0, 0, 0}, {0, 0, 0, 0}, {2, 0, 0, 0}, {0, 3, 2, 0}, {0, 0, 0, 3}};
        for (int q = 0; q < 5; q++) {
            for (int user = 0; user < CapacityQueues.USERS; user++) {
                check.due("pending(" + q + ", " + user + ")", x.pending(q, user), pending[q][user]);
                check.due("userUsed(" + q + ", " + user + ")", x.userUsed(q, user), held[q][user]);
            }
            for (int user : WRONG_USERS) {
                noneAt(x, q, user);
            }
        }
        for (int q : WRONG_QUEUES) {
            for (int user = -1; user <= CapacityQueues.USERS; user++) {
                noneAt(x, q, user);
            }
        }
    }

    /** Out of range is everything but 0. */
    private static void readersOfAFreshObject() {
        CapacityQueues x = new CapacityQueues(12, 3);
        check.due("queue 0", State.queue(x, 0),
            "q0 parent -1 g 12 max 12 used 0 u-1 -1/-1 u0 0/0 u1 0/0 u2 0/0 u3 0/0 u4 -1/-1");
        for (int q : new int[] {-1, 1, 2, 15, 16}) {
            check.due("queue " + q, State.queue(x, q), nothingAt(q));
        }
    }

    /** The last queue that there can be is in range, the next one is not. */
    private static void readersOfSixteenQueues() {
        CapacityQueues x = new CapacityQueues(20, 3);
        for (int q = 1; q < CapacityQueues.MAX_QUEUES; q++) {
            check.due("queue " + q + ", not yet added", State.queue(x, q), nothingAt(q));
            x.addQueue(0, 1, q);
        }
        x.submit(15, 3, 5);
        x.schedule();
        check.due("queue 15", State.queue(x, 15),
            "q15 parent 0 g 1 max 15 used 3 u-1 -1/-1 u0 0/0 u1 0/0 u2 0/0 u3 2/3 u4 -1/-1");
        check.due("queue 16", State.queue(x, 16), nothingAt(16));
        check.due("containerInfo(1)", x.containerInfo(1), 63);
    }

    private static String nothingAt(int q) {
        return "q" + q + " parent -1 g -1 max -1 used -1 u-1 -1/-1 u0 -1/-1 u1 -1/-1 u2 -1/-1 u3 -1/-1 u4 -1/-1";
    }

    /** "Otherwise it is 0 for a queue with children", also when it was a leaf before and units are held below it. */
    private static void queueThatWasALeaf() {
        CapacityQueues x = new CapacityQueues(4, 3);
        x.submit(0, 2, 9);
        x.schedule();
        for (int id = 1; id <= 3; id++) {
            x.complete(id);
        }
        check.due("pending(0, 2)", x.pending(0, 2), 6);
        x.cancel(0, 2);
        x.addQueue(0, 1, 4);
        x.submit(1, 2, 9);
        x.schedule();
        check.due("queue 0", State.queue(x, 0),
            "q0 parent -1 g 4 max 4 used 3 u-1 -1/-1 u0 0/0 u1 0/0 u2 0/0 u3 0/0 u4 -1/-1");
        check.due("queue 1", State.queue(x, 1),
            "q1 parent 0 g 1 max 4 used 3 u-1 -1/-1 u0 0/0 u1 0/0 u2 6/3 u3 0/0 u4 -1/-1");
        for (int user : WRONG_USERS) {
            noneAt(x, 0, user);
        }
    }

    private static void noneAt(CapacityQueues x, int q, int user) {
        check.due("pending(" + q + ", " + user + ")", x.pending(q, user), NONE);
        check.due("userUsed(" + q + ", " + user + ")", x.userUsed(q, user), NONE);
    }

    private static void userLimitAnswers() {
        for (int limit = 1; limit <= 64; limit++) {
            check.due("userLimit()", new CapacityQueues(5, limit).userLimit(), limit);
        }
    }

    private static void containerInfoAnswers() {
        CapacityQueues x = loaded();
        int[] counts = new int[20];
        for (int id = 1; id <= 10; id++) {
            counts[x.containerInfo(id)]++;
        }
        int[] want = {0, 0, 0, 0, 0, 0, 0, 0, 2, 0, 0, 0, 0, 3, 2, 0, 0, 0, 0, 3};
        for (int info = 0; info < want.length; info++) {
            check.due("live containers with info " + info, counts[info], want[info]);
        }
        int[] wrongIds = {0, -1, -10, 11, 12, 65, Integer.MIN_VALUE, Integer.MAX_VALUE};
        for (int id : wrongIds) {
            check.due("containerInfo(" + id + ")", x.containerInfo(id), NONE);
        }
        x.complete(10);
        check.due("containerInfo(10), gone", x.containerInfo(10), NONE);
        check.due("containerInfo(0), with a free unit", x.containerInfo(0), NONE);
    }

    /** The first and the last issued id of a full cluster of 64 units, and their outer neighbours. */
    private static void containerInfoAtTheEnds() {
        CapacityQueues x = new CapacityQueues(64, 64);
        x.submit(0, 0, 64);
        check.due("containerInfo(1), asked for but not issued", x.containerInfo(1), NONE);
        x.schedule();
        check.due("containerInfo(0)", x.containerInfo(0), NONE);
        check.due("containerInfo(1)", x.containerInfo(1), 0);
        check.due("containerInfo(64)", x.containerInfo(64), 0);
        check.due("containerInfo(65)", x.containerInfo(65), NONE);
    }

    /** "already gone": by complete, and by preempt. */
    private static void containerInfoOfGoneOnes() {
        CapacityQueues x = new CapacityQueues(2, 2);
        x.addQueue(0, 0, 2);
        x.addQueue(0, 1, 2);
        x.submit(1, 1, 2);
        x.schedule();
        x.submit(2, 2, 1);
        check.due("preempt()", x.preempt(), 1);
        check.due("containerInfo(2), taken back", x.containerInfo(2), NONE);
        check.due("containerInfo(3)", x.containerInfo(3), 10);
        check.due("complete(1)", x.complete(1), true);
        check.due("containerInfo(1), completed", x.containerInfo(1), NONE);
        check.due("schedule()", x.schedule(), 1);
        check.granted(x, 1, NONE, NONE, 10, 5);
    }

    private static void readersChangeNothing() {
        CapacityQueues read = loaded();
        CapacityQueues unread = loaded();
        String before = State.of(read);
        check.due("state read twice", State.of(read), before);
        check.due("complete(1)", read.complete(1), unread.complete(1));
        State.of(read);
        check.due("schedule()", read.schedule(), unread.schedule());
        check.due("state of the unread object", State.of(unread), State.of(read));
    }
}
