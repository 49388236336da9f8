/** Promise 2. */
public final class AddQueueTest {
    private static final Check check = new Check();

    public static void main(String[] args) {
        newQueueAndItsState();
        atMostSixteenQueues();
        sixteenQueuesTakeNoMoreWhateverElseHolds();
        wrongParents();
        wrongParentsOfAFreshObject();
        wrongCapacities();
        capacitiesAtTheirBounds();
        guaranteesMustFit();
        nothingFitsBelowAGuaranteeOfZero();
        aBusyLeafGetsNoChild();
        aBusyRootGetsNoChild();
        aLeafIsNoLongerBusyWhenAllIsGone();
        aLeafBesideABusyOneIsNotBusy();
        aBusyInnerQueueGetsOne();
        nothingIsScheduled();
        check.end();
    }

    private static void refused(CapacityQueues x, int parent, int g, int max) {
        String before = State.of(x);
        String call = "addQueue(" + parent + ", " + g + ", " + max + ")";
        check.due(call, x.addQueue(parent, g, max), CapacityQueues.NONE);
        check.due("state after the refused " + call, State.of(x), before);
    }

    private static void newQueueAndItsState() {
        CapacityQueues x = new CapacityQueues(10, 4);
        String root = State.queue(x, 0);
        check.due("addQueue(0, 3, 7)", x.addQueue(0, 3, 7), 1);
        check.due("addQueue(1, 2, 10)", x.addQueue(1, 2, 10), 2);
        check.due("addQueue(0, 0, 0)", x.addQueue(0, 0, 0), 3);
        check.due("queueCount()", x.queueCount(), 4);
        check.due("queue 0", State.queue(x, 0), root);
        check.due("queue 1", State.queue(x, 1),
            "q1 parent 0 g 3 max 7 used 0 u-1 -1/-1 u0 0/0 u1 0/0 u2 0/0 u3 0/0 u4 -1/-1");
        check.due("queue 2", State.queue(x, 2),
            "q2 parent 1 g 2 max 10 used 0 u-1 -1/-1 u0 0/0 u1 0/0 u2 0/0 u3 0/0 u4 -1/-1");
        check.due("queue 3", State.queue(x, 3),
            "q3 parent 0 g 0 max 0 used 0 u-1 -1/-1 u0 0/0 u1 0/0 u2 0/0 u3 0/0 u4 -1/-1");
        check.due("submit(0, 0, 1), no leaf any more", x.submit(0, 0, 1), false);
        check.due("submit(1, 0, 1), no leaf any more", x.submit(1, 0, 1), false);
        check.due("submit(2, 0, 1), a leaf", x.submit(2, 0, 1), true);
        check.due("submit(3, 0, 1), a leaf", x.submit(3, 0, 1), true);
    }

    private static void atMostSixteenQueues() {
        CapacityQueues wide = new CapacityQueues(20, 4);
        CapacityQueues deep = new CapacityQueues(20, 4);
        for (int q = 1; q < CapacityQueues.MAX_QUEUES; q++) {
            check.due("wide addQueue to " + q, wide.addQueue(0, 1, 2), q);
            check.due("deep addQueue to " + q, deep.addQueue(q - 1, 20 - q, 20), q);
        }
        refused(wide, 0, 1, 2);
        refused(wide, 15, 0, 0);
        refused(deep, 15, 1, 2);
        deep.submit(15, 2, 6);
        check.due("schedule() in the deep tree", deep.schedule(), 4);
        check.due("used(0) in the deep tree", deep.used(0), 4);
        check.due("used(7) in the deep tree", deep.used(7), 4);
    }

    /** "1. queueCount() == 16." */
    private static void sixteenQueuesTakeNoMoreWhateverElseHolds() {
        CapacityQueues x = Start.full().object();
        check.due("queueCount()", x.queueCount(), 16);
        for (int parent = -1; parent <= 16; parent++) {
            refused(x, parent, 0, 0);
            refused(x, parent, 0, 30);
            refused(x, parent, -1, 31);
        }
    }

    /** "2. parent not in 0..queueCount()-1.", where 1 would be the new queue itself. */
    private static void wrongParentsOfAFreshObject() {
        CapacityQueues x = new CapacityQueues(10, 4);
        refused(x, -1, 0, 1);
        refused(x, 1, 0, 1);
        check.due("addQueue(0, 0, 1)", x.addQueue(0, 0, 1), 1);
        refused(x, 2, 0, 1);
        check.due("addQueue(1, 0, 1)", x.addQueue(1, 0, 1), 2);
    }

    private static void wrongParents() {
        CapacityQueues x = new CapacityQueues(10, 4);
        x.addQueue(0, 3, 7);
        refused(x, -1, 0, 1);
        refused(x, 2, 0, 1);
        refused(x, 16, 0, 1);
        refused(x, Integer.MIN_VALUE, 0, 1);
        refused(x, Integer.MAX_VALUE, 0, 1);
    }

    private static void wrongCapacities() {
        CapacityQueues x = new CapacityQueues(10, 4);
        refused(x, 0, -1, 5);
        refused(x, 0, -1, -1);
        refused(x, 0, Integer.MIN_VALUE, 5);
        refused(x, 0, 5, 4);
        refused(x, 0, 0, -1);
        refused(x, 0, 5, 11);
        refused(x, 0, 0, Integer.MAX_VALUE);
        refused(x, 0, Integer.MAX_VALUE, Integer.MAX_VALUE);
        check.due("addQueue(0, 5, 5)", x.addQueue(0, 5, 5), 1);
        check.due("a maximum above the parent's, addQueue(1, 0, 10)", x.addQueue(1, 0, 10), 2);
    }

    /** "4. g < 0, or max < g, or max > C.": each bound is taken, and one beyond it is not. */
    private static void capacitiesAtTheirBounds() {
        for (int units : new int[] {1, 10, 64}) {
            CapacityQueues x = new CapacityQueues(units, 4);
            refused(x, 0, -1, units);
            refused(x, 0, units, units - 1);
            refused(x, 0, 1, 0);
            refused(x, 0, 0, units + 1);
            refused(x, 0, units + 1, units + 1);
            check.due("addQueue(0, 0, 0)", x.addQueue(0, 0, 0), 1);
            check.due("addQueue(0, 0, C)", x.addQueue(0, 0, units), 2);
            check.due("addQueue(0, C, C)", x.addQueue(0, units, units), 3);
        }
    }

    /** "5. (sum of g over parent's existing children) + g > g(parent).", with a parent of guarantee 0. */
    private static void nothingFitsBelowAGuaranteeOfZero() {
        CapacityQueues x = new CapacityQueues(10, 4);
        x.addQueue(0, 0, 10);
        refused(x, 1, 1, 10);
        check.due("addQueue(1, 0, 10)", x.addQueue(1, 0, 10), 2);
        refused(x, 1, 1, 10);
        check.due("addQueue(1, 0, 0)", x.addQueue(1, 0, 0), 3);
    }

    private static void guaranteesMustFit() {
        CapacityQueues x = new CapacityQueues(10, 4);
        x.addQueue(0, 6, 10);
        x.addQueue(1, 4, 10);
        refused(x, 0, 5, 10);
        check.due("addQueue(0, 4, 10)", x.addQueue(0, 4, 10), 3);
        refused(x, 0, 1, 10);
        refused(x, 1, 3, 10);
        check.due("addQueue(1, 2, 10)", x.addQueue(1, 2, 10), 4);
        check.due("addQueue(0, 0, 10)", x.addQueue(0, 0, 10), 5);
        refused(x, 2, 5, 10);
        check.due("addQueue(2, 4, 10)", x.addQueue(2, 4, 10), 6);
    }

    private static void aBusyLeafGetsNoChild() {
        for (int user = 0; user < CapacityQueues.USERS; user++) {
            CapacityQueues x = new CapacityQueues(10, 4);
            x.addQueue(0, 5, 10);
            x.submit(1, user, 1);
            refused(x, 1, 0, 1);
            x.schedule();
            check.due("pending(1, " + user + ")", x.pending(1, user), 0);
            refused(x, 1, 0, 1);
            x.complete(1);
            check.due("addQueue(1, 0, 1)", x.addQueue(1, 0, 1), 2);
        }
    }

    /** "3. parent is a leaf and either used(parent) > 0 or some pending(parent,k) > 0.", where the leaf is the root. */
    private static void aBusyRootGetsNoChild() {
        CapacityQueues x = new CapacityQueues(1, 1);
        x.submit(0, 3, 2);
        refused(x, 0, 0, 1);
        x.schedule();
        refused(x, 0, 0, 1);
        check.due("cancel(0, 3)", x.cancel(0, 3), 1);
        refused(x, 0, 0, 1);
        x.complete(1);
        check.due("addQueue(0, 1, 1)", x.addQueue(0, 1, 1), 1);
    }

    private static void aLeafIsNoLongerBusyWhenAllIsGone() {
        CapacityQueues x = new CapacityQueues(10, 4);
        x.addQueue(0, 5, 10);
        x.submit(1, 1, 6);
        x.submit(1, 2, 1);
        x.schedule();
        for (int id = 1; id <= 5; id++) {
            refused(x, 1, 0, 1);
            check.due("complete(" + id + ")", x.complete(id), true);
        }
        refused(x, 1, 0, 1);
        check.due("cancel(1, 1)", x.cancel(1, 1), 2);
        check.due("addQueue(1, 5, 10)", x.addQueue(1, 5, 10), 2);
        check.due("queue 1", State.queue(x, 1),
            "q1 parent 0 g 5 max 10 used 0 u-1 -1/-1 u0 0/0 u1 0/0 u2 0/0 u3 0/0 u4 -1/-1");
        check.due("queue 2", State.queue(x, 2),
            "q2 parent 1 g 5 max 10 used 0 u-1 -1/-1 u0 0/0 u1 0/0 u2 0/0 u3 0/0 u4 -1/-1");
    }

    private static void aLeafBesideABusyOneIsNotBusy() {
        CapacityQueues x = new CapacityQueues(10, 1);
        for (int q = 1; q <= 3; q++) {
            x.addQueue(0, 2, 10);
        }
        for (int user = 0; user < CapacityQueues.USERS; user++) {
            x.submit(1, user, 2);
            x.submit(3, user, 2);
        }
        check.due("addQueue(2, 2, 10) beside requests", x.addQueue(2, 2, 10), 4);
        check.due("schedule()", x.schedule(), 8);
        check.due("addQueue(4, 2, 10) beside containers", x.addQueue(4, 2, 10), 5);
        refused(x, 1, 0, 1);
        refused(x, 3, 0, 1);
    }

    private static void aBusyInnerQueueGetsOne() {
        CapacityQueues x = new CapacityQueues(10, 4);
        x.addQueue(0, 5, 10);
        x.submit(1, 0, 6);
        x.schedule();
        x.submit(1, 1, 3);
        check.due("used(0)", x.used(0), 4);
        String queues = State.queues(x, 0, 1);
        String containers = State.containers(x);
        check.due("addQueue(0, 0, 1)", x.addQueue(0, 0, 1), 2);
        check.due("the other queues", State.queues(x, 0, 1), queues);
        check.due("the containers", State.containers(x), containers);
    }

    private static void nothingIsScheduled() {
        CapacityQueues x = new CapacityQueues(10, 4);
        x.addQueue(0, 5, 10);
        x.submit(1, 0, 3);
        String one = State.queue(x, 1);
        x.addQueue(0, 5, 10);
        check.due("queue 1", State.queue(x, 1), one);
        check.due("containerInfo(1)", x.containerInfo(1), CapacityQueues.NONE);
    }
}
