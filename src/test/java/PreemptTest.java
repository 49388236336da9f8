/** Promise 8, and property 5 of "What holds after every call". */
public final class PreemptTest {
    private static final Check check = new Check();

    public static void main(String[] args) {
        nothingToDo();
        fillComesFirstAndIsNotCounted();
        youngestVictimAndItsRequest();
        onlyUpToTheGuarantee();
        onlyFromLeavesAboveTheirGuarantee();
        onlyForSatisfiableDemand();
        lowestStarvedLeafFirst();
        onlyBelowTheNearestFullAncestor();
        outsideWhenTheFullAncestorIsFarther();
        sixtyFourRounds();
        sixteenQueues();
        check.end();
    }

    private static int at(int leaf, int user) {
        return leaf * CapacityQueues.USERS + user;
    }

    private static void nothingToDo() {
        CapacityQueues x = new CapacityQueues(4, 4);
        check.due("preempt()", x.preempt(), 0);
        x.addQueue(0, 2, 4);
        x.addQueue(0, 2, 4);
        x.submit(1, 0, 4);
        x.schedule();
        String before = State.of(x);
        check.due("preempt() without a starved leaf", x.preempt(), 0);
        check.due("state", State.of(x), before);
    }

    private static void fillComesFirstAndIsNotCounted() {
        CapacityQueues x = new CapacityQueues(6, 6);
        x.addQueue(0, 2, 6);
        x.addQueue(0, 4, 6);
        x.submit(1, 0, 4);
        x.schedule();
        x.submit(2, 1, 3);
        check.due("preempt()", x.preempt(), 1);
        check.granted(x, 1, at(1, 0), at(1, 0), at(1, 0), -1, at(2, 1), at(2, 1), at(2, 1));
        check.due("pending(1, 0)", x.pending(1, 0), 1);
        check.due("pending(2, 1)", x.pending(2, 1), 0);
    }

    private static void youngestVictimAndItsRequest() {
        CapacityQueues x = new CapacityQueues(6, 6);
        x.addQueue(0, 0, 6);
        x.addQueue(0, 2, 6);
        x.addQueue(0, 0, 6);
        x.submit(1, 2, 3);
        x.schedule();
        x.complete(1);
        x.submit(3, 3, 2);
        x.schedule();
        x.submit(1, 1, 2);
        x.schedule();
        // The units are held by 2 and 3 of leaf 1, 4 and 5 of leaf 3, 6 and 7 of leaf 1.
        check.granted(x, 1, -1, at(1, 2), at(1, 2), at(3, 3), at(3, 3), at(1, 1), at(1, 1));
        x.complete(6);
        x.submit(3, 0, 1);
        x.schedule();
        x.submit(2, 0, 2);
        check.due("preempt()", x.preempt(), 2);
        check.granted(x, 1, -1, at(1, 2), at(1, 2), at(3, 3), at(3, 3), -1, -1, -1, at(2, 0), at(2, 0));
        check.due("pending(3, 0)", x.pending(3, 0), 1);
        check.due("pending(1, 1)", x.pending(1, 1), 1);
        check.due("pending(1, 2)", x.pending(1, 2), 0);
        check.due("userUsed(3, 0)", x.userUsed(3, 0), 0);
        check.due("userUsed(1, 1)", x.userUsed(1, 1), 0);
        check.due("used(0)", x.used(0), 6);
        check.due("used(1)", x.used(1), 2);
        check.due("used(2)", x.used(2), 2);
        check.due("used(3)", x.used(3), 2);
    }

    private static void onlyUpToTheGuarantee() {
        CapacityQueues x = new CapacityQueues(8, 8);
        x.addQueue(0, 1, 8);
        x.addQueue(0, 3, 8);
        x.submit(1, 0, 8);
        x.schedule();
        x.submit(2, 0, 8);
        check.due("preempt()", x.preempt(), 3);
        check.due("used(1)", x.used(1), 5);
        check.due("used(2)", x.used(2), 3);
        check.due("pending(1, 0)", x.pending(1, 0), 3);
        check.due("pending(2, 0)", x.pending(2, 0), 5);
        check.due("guarantee(1)", x.guarantee(1), 1);
        check.due("guarantee(2)", x.guarantee(2), 3);
        check.due("maxCapacity(1)", x.maxCapacity(1), 8);
        check.due("maxCapacity(2)", x.maxCapacity(2), 8);
    }

    private static void onlyFromLeavesAboveTheirGuarantee() {
        CapacityQueues x = new CapacityQueues(8, 8);
        x.addQueue(0, 1, 8);
        x.addQueue(0, 2, 2);
        x.addQueue(0, 5, 8);
        x.submit(1, 0, 6);
        x.schedule();
        x.submit(2, 0, 2);
        x.schedule();
        x.submit(3, 0, 8);
        // The youngest two are in leaf 2, which holds no more than its guarantee.
        check.due("preempt()", x.preempt(), 5);
        check.due("used(1)", x.used(1), 1);
        check.due("used(2)", x.used(2), 2);
        check.due("used(3)", x.used(3), 5);
        check.granted(x, 1, at(1, 0), -1, -1, -1, -1, -1, at(2, 0), at(2, 0),
            at(3, 0), at(3, 0), at(3, 0), at(3, 0), at(3, 0));
    }

    private static void onlyForSatisfiableDemand() {
        CapacityQueues x = new CapacityQueues(8, 2);
        x.addQueue(0, 0, 8);
        x.addQueue(0, 6, 8);
        for (int user = 0; user < CapacityQueues.USERS; user++) {
            x.submit(1, user, 2);
        }
        x.schedule();
        x.submit(2, 0, 5);
        x.submit(2, 3, 1);
        check.due("preempt()", x.preempt(), 3);
        check.due("userUsed(2, 0)", x.userUsed(2, 0), 2);
        check.due("userUsed(2, 3)", x.userUsed(2, 3), 1);
        check.due("preempt() again", x.preempt(), 0);
        // The grants of the rounds take the least served user first.
        check.granted(x, 9, at(2, 0), at(2, 3), at(2, 0));
    }

    private static void lowestStarvedLeafFirst() {
        CapacityQueues x = new CapacityQueues(6, 6);
        x.addQueue(0, 0, 6);
        x.addQueue(0, 1, 6);
        x.addQueue(0, 4, 6);
        x.submit(1, 0, 6);
        x.schedule();
        x.submit(3, 1, 2);
        x.submit(2, 2, 2);
        check.due("preempt()", x.preempt(), 3);
        check.granted(x, 7, at(2, 2), at(3, 1), at(3, 1));
    }

    /** The cluster is full; leaf 3 beside the starved leaf 4 holds lent units, and leaf 2 outside holds younger ones. */
    private static CapacityQueues starvedBelowQueueOne(int maxOfQueueOne) {
        CapacityQueues x = new CapacityQueues(10, 10);
        x.addQueue(0, 6, maxOfQueueOne);
        x.addQueue(0, 2, 10);
        x.addQueue(1, 3, 6);
        x.addQueue(1, 3, 6);
        x.submit(3, 0, 6);
        x.schedule();
        x.submit(2, 0, 4);
        x.schedule();
        x.submit(4, 0, 2);
        return x;
    }

    private static void onlyBelowTheNearestFullAncestor() {
        CapacityQueues x = starvedBelowQueueOne(6);
        // Root is full too, and leaf 2 holds younger lent units, but queue 1 is full and nearer.
        check.due("preempt()", x.preempt(), 2);
        check.due("used(2)", x.used(2), 4);
        check.due("used(3)", x.used(3), 4);
        check.due("used(4)", x.used(4), 2);
        check.due("used(1)", x.used(1), 6);
        check.granted(x, 1, at(3, 0), at(3, 0), at(3, 0), at(3, 0), -1, -1,
            at(2, 0), at(2, 0), at(2, 0), at(2, 0), at(4, 0), at(4, 0));
    }

    private static void outsideWhenTheFullAncestorIsFarther() {
        CapacityQueues x = starvedBelowQueueOne(7);
        // Queue 1 has room for one: that one comes from the youngest below the root, the next from below queue 1.
        check.due("preempt()", x.preempt(), 2);
        check.due("used(2)", x.used(2), 3);
        check.due("used(3)", x.used(3), 5);
        check.due("used(4)", x.used(4), 2);
        check.due("used(1)", x.used(1), 7);
        check.due("used(0)", x.used(0), 10);
    }

    private static void sixtyFourRounds() {
        CapacityQueues x = new CapacityQueues(64, 64);
        x.addQueue(0, 0, 64);
        x.addQueue(0, 64, 64);
        x.submit(1, 0, 64);
        x.schedule();
        x.submit(2, 3, 64);
        check.due("preempt()", x.preempt(), CapacityQueues.MAX_ROUNDS);
        check.due("used(1)", x.used(1), 0);
        check.due("used(2)", x.used(2), 64);
        check.due("pending(1, 0)", x.pending(1, 0), 64);
        check.due("containerInfo(65)", x.containerInfo(65), at(2, 3));
        check.due("containerInfo(128)", x.containerInfo(128), at(2, 3));
        check.due("containerInfo(129)", x.containerInfo(129), CapacityQueues.NONE);
    }

    private static void sixteenQueues() {
        CapacityQueues x = new CapacityQueues(64, 64);
        x.addQueue(0, 0, 64);
        for (int q = 2; q < CapacityQueues.MAX_QUEUES; q++) {
            x.addQueue(0, 3, 64);
        }
        x.submit(1, 0, 64);
        check.due("preempt() with nothing to take back", x.preempt(), 0);
        for (int q = 2; q < CapacityQueues.MAX_QUEUES; q++) {
            x.submit(q, 1, q % 2 == 0 ? 2 : 4);
        }
        check.due("preempt()", x.preempt(), 7 * 2 + 7 * 3);
        check.due("used(1)", x.used(1), 64 - 35);
        check.due("used(14)", x.used(14), 2);
        check.due("used(15)", x.used(15), 3);
        check.due("pending(15, 1)", x.pending(15, 1), 1);
    }
}
