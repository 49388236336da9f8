/** Promise 6. */
public final class CompleteTest {
    private static final Check check = new Check();

    public static void main(String[] args) {
        wrongIds();
        wrongIdsOfAFreshObject();
        everyIdUpToTheLastIssued();
        idsTakenBackAreGone();
        usageIsReleasedUpToTheRoot();
        pendingIsNotRestored();
        idsAreNeverReused();
        manyContainersComeAndGo();
        check.end();
    }

    private static CapacityQueues loaded() {
        CapacityQueues x = new CapacityQueues(8, 8);
        x.addQueue(0, 6, 8);
        x.addQueue(1, 4, 8);
        x.addQueue(0, 2, 8);
        x.submit(2, 3, 9);
        x.submit(3, 1, 9);
        x.schedule();
        return x;
    }

    private static void refused(CapacityQueues x, int id) {
        String before = State.of(x);
        check.due("complete(" + id + ")", x.complete(id), false);
        check.due("state after the refused complete(" + id + ")", State.of(x), before);
    }

    private static void wrongIds() {
        CapacityQueues x = loaded();
        int[] ids = {0, -1, 9, 10, 64, 65, Integer.MIN_VALUE, Integer.MAX_VALUE};
        for (int id : ids) {
            refused(x, id);
        }
        check.due("complete(4)", x.complete(4), true);
        refused(x, 4);
        refused(x, 0);
    }

    /** "an id never issued": the counter stands at 1, but 1 is issued only by a grant. */
    private static void wrongIdsOfAFreshObject() {
        CapacityQueues x = new CapacityQueues(8, 8);
        for (int id : new int[] {Integer.MIN_VALUE, -1, 0, 1, 2, 64, Integer.MAX_VALUE}) {
            refused(x, id);
        }
        x.submit(0, 0, 1);
        refused(x, 1);
        x.schedule();
        refused(x, 2);
        check.due("complete(1)", x.complete(1), true);
        refused(x, 1);
    }

    /** In a cluster of 64 units, all held: the first and the last issued are live, their outer neighbours are not. */
    private static void everyIdUpToTheLastIssued() {
        CapacityQueues x = new CapacityQueues(64, 64);
        x.submit(0, 0, 64);
        x.schedule();
        refused(x, 0);
        refused(x, 65);
        for (int id = 1; id <= 64; id++) {
            check.due("complete(" + id + ")", x.complete(id), true);
            check.due("used(0)", x.used(0), 64 - id);
        }
        for (int id = 0; id <= 65; id++) {
            refused(x, id);
        }
    }

    /** "a container already gone", by preempt: its id stays gone when the request is granted anew. */
    private static void idsTakenBackAreGone() {
        CapacityQueues x = new CapacityQueues(4, 4);
        x.addQueue(0, 0, 4);
        x.addQueue(0, 1, 4);
        x.submit(1, 0, 4);
        x.schedule();
        x.submit(2, 0, 1);
        check.due("preempt()", x.preempt(), 1);
        refused(x, 4);
        check.due("complete(5)", x.complete(5), true);
        check.due("schedule()", x.schedule(), 1);
        check.granted(x, 1, 4, 4, 4, -1, -1, 4);
        refused(x, 4);
        refused(x, 5);
    }

    /** "Its pending is not restored: pending of its leaf and user stays as it was", at 0 and above. */
    private static void pendingIsNotRestored() {
        CapacityQueues x = new CapacityQueues(2, 2);
        x.submit(0, 0, 1);
        x.submit(0, 1, 5);
        x.schedule();
        check.due("complete(1)", x.complete(1), true);
        check.due("pending(0, 0)", x.pending(0, 0), 0);
        check.due("pending(0, 1)", x.pending(0, 1), 4);
        check.due("complete(2)", x.complete(2), true);
        check.due("pending(0, 1)", x.pending(0, 1), 4);
        check.due("used(0): nothing is scheduled", x.used(0), 0);
        check.due("schedule()", x.schedule(), 2);
        check.granted(x, 1, -1, -1, 1, 1);
    }

    private static void usageIsReleasedUpToTheRoot() {
        CapacityQueues x = loaded();
        check.due("used(2)", x.used(2), 6);
        check.due("used(3)", x.used(3), 2);
        check.due("containerInfo(1)", x.containerInfo(1), 2 * 4 + 3);
        check.due("complete(1)", x.complete(1), true);
        check.due("containerInfo(1)", x.containerInfo(1), CapacityQueues.NONE);
        check.due("used(2)", x.used(2), 5);
        check.due("used(1)", x.used(1), 5);
        check.due("used(0)", x.used(0), 7);
        check.due("used(3)", x.used(3), 2);
        check.due("userUsed(2, 3)", x.userUsed(2, 3), 5);
        check.due("userUsed(3, 1)", x.userUsed(3, 1), 2);
        check.due("pending(2, 3)", x.pending(2, 3), 3);
        check.due("pending(3, 1)", x.pending(3, 1), 7);
        check.due("nothing new: containerInfo(9)", x.containerInfo(9), CapacityQueues.NONE);
    }

    private static void idsAreNeverReused() {
        CapacityQueues x = loaded();
        x.complete(8);
        x.complete(3);
        check.due("schedule()", x.schedule(), 2);
        check.due("containerInfo(3)", x.containerInfo(3), CapacityQueues.NONE);
        check.due("containerInfo(8)", x.containerInfo(8), CapacityQueues.NONE);
        check.due("9 is live", x.containerInfo(9) != CapacityQueues.NONE, true);
        check.due("10 is live", x.containerInfo(10) != CapacityQueues.NONE, true);
        refused(x, 3);
        refused(x, 8);
    }

    private static void manyContainersComeAndGo() {
        CapacityQueues x = new CapacityQueues(64, 64);
        int next = 1;
        for (int turn = 0; turn < 2000; turn++) {
            x.submit(0, turn % 4, 64);
            check.due("schedule() in turn " + turn, x.schedule(), 64);
            for (int id = next; id < next + 64; id++) {
                check.due("complete(" + id + ")", x.complete(id), true);
                check.due("complete(" + id + ") again", x.complete(id), false);
            }
            next += 64;
        }
        check.due("used(0)", x.used(0), 0);
    }
}
