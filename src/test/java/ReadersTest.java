/** Promises 9 to 17. */
public final class ReadersTest {
    private static final int NONE = CapacityQueues.NONE;
    private static final int[] WRONG_QUEUES = {-1, 5, 6, 15, 16, 17, Integer.MIN_VALUE, Integer.MAX_VALUE};
    private static final int[] WRONG_USERS = {-1, 4, 5, Integer.MIN_VALUE, Integer.MAX_VALUE};
    private static final Check check = new Check();

    public static void main(String[] args) {
        queueCountCounts();
        readersOfAQueue();
        readersOfALeafAndUser();
        userLimitAnswers();
        containerInfoAnswers();
        readersChangeNothing();
        check.end();
    }

    /** Root 0 with children 1 and 2; 3 and 4 below 1. Leaf 2 holds 2 units, leaf 3 holds 5, leaf 4 holds 3. */
    private static CapacityQueues loaded() {
        CapacityQueues x = new CapacityQueues(12, 3);
        x.addQueue(0, 8, 11);
        x.addQueue(0, 2, 2);
        x.addQueue(1, 5, 10);
        x.addQueue(1, 1, 3);
        x.submit(2, 0, 7);
        x.submit(3, 1, 9);
        x.submit(3, 2, 2);
        x.submit(4, 3, 4);
        x.schedule();
        return x;
    }

    private static void queueCountCounts() {
        CapacityQueues x = new CapacityQueues(4, 4);
        for (int q = 1; q < CapacityQueues.MAX_QUEUES; q++) {
            check.due("queueCount()", x.queueCount(), q);
            x.addQueue(q / 2, 0, 4);
        }
        check.due("queueCount()", x.queueCount(), 16);
        x.addQueue(0, 0, 4);
        check.due("queueCount() after a refused addQueue", x.queueCount(), 16);
        for (int q = 1; q < CapacityQueues.MAX_QUEUES; q++) {
            check.due("parentOf(" + q + ")", x.parentOf(q), q / 2);
        }
    }

    private static void readersOfAQueue() {
        CapacityQueues x = loaded();
        int[] parents = {-1, 0, 0, 1, 1};
        int[] guarantees = {12, 8, 2, 5, 1};
        int[] maximums = {12, 11, 2, 10, 3};
        int[] usages = {10, 8, 2, 5, 3};
        for (int q = 0; q < 5; q++) {
            check.due("parentOf(" + q + ")", x.parentOf(q), parents[q]);
            check.due("guarantee(" + q + ")", x.guarantee(q), guarantees[q]);
            check.due("maxCapacity(" + q + ")", x.maxCapacity(q), maximums[q]);
            check.due("used(" + q + ")", x.used(q), usages[q]);
        }
        for (int q : WRONG_QUEUES) {
            check.due("parentOf(" + q + ")", x.parentOf(q), NONE);
            check.due("guarantee(" + q + ")", x.guarantee(q), NONE);
            check.due("maxCapacity(" + q + ")", x.maxCapacity(q), NONE);
            check.due("used(" + q + ")", x.used(q), NONE);
        }
    }

    private static void readersOfALeafAndUser() {
        CapacityQueues x = loaded();
        int[][] pending = {{0, 0, 0, 0}, {0, 0, 0, 0}, {5, 0, 0, 0}, {0, 6, 0, 0}, {0, 0, 0, 1}};
        int[][] held = {{0, 0, 0, 0}, {0, 0, 0, 0}, {2, 0, 0, 0}, {0, 3, 2, 0}, {0, 0, 0, 3}};
        for (int q = 0; q < 5; q++) {
            for (int user = 0; user < CapacityQueues.USERS; user++) {
                check.due("pending(" + q + ", " + user + ")", x.pending(q, user), pending[q][user]);
                check.due("userUsed(" + q + ", " + user + ")", x.userUsed(q, user), held[q][user]);
            }
            for (int user : WRONG_USERS) {
                noneAt(x, q, user);
            }
        }
        for (int q : WRONG_QUEUES) {
            for (int user = -1; user <= CapacityQueues.USERS; user++) {
                noneAt(x, q, user);
            }
        }
    }

    private static void noneAt(CapacityQueues x, int q, int user) {
        check.due("pending(" + q + ", " + user + ")", x.pending(q, user), NONE);
        check.due("userUsed(" + q + ", " + user + ")", x.userUsed(q, user), NONE);
    }

    private static void userLimitAnswers() {
        for (int limit = 1; limit <= 64; limit++) {
            check.due("userLimit()", new CapacityQueues(5, limit).userLimit(), limit);
        }
    }

    private static void containerInfoAnswers() {
        CapacityQueues x = loaded();
        int[] counts = new int[20];
        for (int id = 1; id <= 10; id++) {
            counts[x.containerInfo(id)]++;
        }
        int[] want = {0, 0, 0, 0, 0, 0, 0, 0, 2, 0, 0, 0, 0, 3, 2, 0, 0, 0, 0, 3};
        for (int info = 0; info < want.length; info++) {
            check.due("live containers with info " + info, counts[info], want[info]);
        }
        int[] wrongIds = {0, -1, -10, 11, 12, 65, Integer.MIN_VALUE, Integer.MAX_VALUE};
        for (int id : wrongIds) {
            check.due("containerInfo(" + id + ")", x.containerInfo(id), NONE);
        }
        x.complete(10);
        check.due("containerInfo(10), gone", x.containerInfo(10), NONE);
        check.due("containerInfo(0), with a free unit", x.containerInfo(0), NONE);
    }

    private static void readersChangeNothing() {
        CapacityQueues read = loaded();
        CapacityQueues unread = loaded();
        String before = State.of(read);
        check.due("state read twice", State.of(read), before);
        check.due("complete(1)", read.complete(1), unread.complete(1));
        State.of(read);
        check.due("schedule()", read.schedule(), unread.schedule());
        check.due("state of the unread object", State.of(unread), State.of(read));
    }
}
