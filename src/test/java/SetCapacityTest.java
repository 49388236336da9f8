/** Promise 3. */
public final class SetCapacityTest {
    private static final Check check = new Check();

    public static void main(String[] args) {
        wrongQueues();
        noQueueToChangeInAFreshObject();
        wrongCapacities();
        capacitiesAtTheirBounds();
        notBelowUsage();
        guaranteeMayGoBelowUsage();
        notBelowChildren();
        mustFitBesideSiblings();
        siblingsAndChildrenAreOfThatQueueAlone();
        onlyGuaranteeAndMaximumChange();
        nothingIsScheduled();
        newCapacitiesCount();
        sixteenQueues();
        check.end();
    }

    private static CapacityQueues tree() {
        CapacityQueues x = new CapacityQueues(16, 8);
        x.addQueue(0, 8, 12);
        x.addQueue(0, 6, 16);
        x.addQueue(1, 3, 12);
        x.addQueue(1, 2, 8);
        return x;
    }

    private static void refused(CapacityQueues x, int q, int g, int max) {
        String before = State.of(x);
        String call = "setCapacity(" + q + ", " + g + ", " + max + ")";
        check.due(call, x.setCapacity(q, g, max), false);
        check.due("state after the refused " + call, State.of(x), before);
    }

    private static void taken(CapacityQueues x, int q, int g, int max) {
        String call = "setCapacity(" + q + ", " + g + ", " + max + ")";
        check.due(call, x.setCapacity(q, g, max), true);
        check.due("guarantee after " + call, x.guarantee(q), g);
        check.due("maxCapacity after " + call, x.maxCapacity(q), max);
    }

    private static void wrongQueues() {
        CapacityQueues x = tree();
        refused(x, 0, 16, 16);
        refused(x, 0, 14, 16);
        refused(x, 0, 14, 14);
        refused(x, -1, 0, 1);
        refused(x, 5, 0, 1);
        refused(x, 16, 0, 1);
        refused(x, Integer.MIN_VALUE, 0, 1);
        refused(x, Integer.MAX_VALUE, 0, 1);
    }

    /** "1. q not in 1..queueCount()-1 (the root cannot be changed)." */
    private static void noQueueToChangeInAFreshObject() {
        CapacityQueues x = new CapacityQueues(16, 8);
        for (int q = -1; q <= 16; q++) {
            refused(x, q, 0, 1);
            refused(x, q, 16, 16);
        }
        x.addQueue(0, 1, 1);
        refused(x, 0, 16, 16);
        refused(x, 2, 0, 1);
        taken(x, 1, 0, 1);
    }

    /** "2. g < 0 or max < g. 3. max > C.": each bound is taken, and one beyond it is not. */
    private static void capacitiesAtTheirBounds() {
        for (int units : new int[] {1, 10, 64}) {
            CapacityQueues x = new CapacityQueues(units, 8);
            x.addQueue(0, 0, 0);
            refused(x, 1, -1, units);
            refused(x, 1, 1, 0);
            refused(x, 1, units, units - 1);
            refused(x, 1, 0, units + 1);
            refused(x, 1, units + 1, units + 1);
            taken(x, 1, 0, units);
            taken(x, 1, units, units);
            taken(x, 1, 0, 0);
        }
    }

    private static void wrongCapacities() {
        CapacityQueues x = tree();
        refused(x, 2, -1, 4);
        refused(x, 2, -2, -1);
        refused(x, 2, 4, 3);
        refused(x, 2, 4, 17);
        refused(x, 2, 0, -1);
        refused(x, 2, Integer.MIN_VALUE, 4);
        refused(x, 2, Integer.MAX_VALUE, Integer.MAX_VALUE);
        taken(x, 2, 4, 4);
        taken(x, 2, 4, 16);
        taken(x, 2, 0, 0);
    }

    private static void notBelowUsage() {
        CapacityQueues x = tree();
        x.submit(3, 0, 3);
        x.submit(4, 1, 4);
        x.schedule();
        refused(x, 3, 2, 2);
        taken(x, 3, 2, 3);
        taken(x, 3, 3, 12);
        refused(x, 4, 2, 3);
        taken(x, 4, 2, 4);
        refused(x, 1, 5, 6);
        taken(x, 1, 5, 7);
    }

    /** Test 4 looks at the maximum alone: a leaf may come to hold lent units by a lower guarantee. */
    private static void guaranteeMayGoBelowUsage() {
        CapacityQueues x = tree();
        x.submit(3, 0, 3);
        x.schedule();
        String containers = State.containers(x);
        taken(x, 3, 0, 3);
        taken(x, 1, 2, 3);
        check.due("used(3)", x.used(3), 3);
        check.due("the containers", State.containers(x), containers);
    }

    private static void notBelowChildren() {
        CapacityQueues x = tree();
        refused(x, 1, 4, 12);
        taken(x, 1, 5, 12);
        taken(x, 3, 0, 12);
        taken(x, 1, 2, 12);
        refused(x, 1, 1, 12);
    }

    private static void mustFitBesideSiblings() {
        CapacityQueues x = tree();
        refused(x, 1, 11, 12);
        taken(x, 1, 10, 12);
        refused(x, 2, 7, 16);
        refused(x, 3, 9, 12);
        taken(x, 3, 8, 12);
        refused(x, 4, 3, 8);
        taken(x, 4, 1, 8);
        taken(x, 3, 9, 12);
    }

    /** Tests 5 and 6: a grandchild's guarantee, a cousin's and the queue's own former one are not in the sums. */
    private static void siblingsAndChildrenAreOfThatQueueAlone() {
        CapacityQueues x = new CapacityQueues(16, 8);
        x.addQueue(0, 8, 16);
        x.addQueue(1, 4, 16);
        x.addQueue(2, 4, 16);
        x.addQueue(0, 8, 16);
        x.addQueue(4, 8, 16);
        taken(x, 1, 8, 16);
        refused(x, 1, 9, 16);
        taken(x, 1, 4, 16);
        refused(x, 1, 3, 16);
        refused(x, 2, 5, 16);
        taken(x, 2, 4, 16);
        taken(x, 3, 4, 16);
        taken(x, 3, 0, 16);
        taken(x, 2, 0, 16);
        taken(x, 1, 0, 16);
        refused(x, 5, 9, 16);
        taken(x, 5, 8, 16);
    }

    /** "No containers move, and nothing is scheduled", though the new maximum has room for what is asked. */
    private static void nothingIsScheduled() {
        CapacityQueues x = new CapacityQueues(16, 8);
        x.addQueue(0, 8, 8);
        x.addQueue(0, 2, 2);
        x.submit(1, 0, 8);
        x.submit(2, 1, 8);
        check.due("schedule()", x.schedule(), 10);
        String before = State.of(x);
        taken(x, 2, 8, 16);
        taken(x, 1, 1, 8);
        check.due("the rest of the state", State.of(x), before
            .replace("q1 parent 0 g 8 max 8", "q1 parent 0 g 1 max 8")
            .replace("q2 parent 0 g 2 max 2", "q2 parent 0 g 8 max 16"));
        check.due("schedule()", x.schedule(), 6);
    }

    private static void onlyGuaranteeAndMaximumChange() {
        CapacityQueues x = tree();
        x.submit(2, 0, 64);
        x.submit(2, 1, 64);
        x.schedule();
        x.submit(3, 2, 5);
        String before = State.of(x);
        taken(x, 2, 1, 16);
        taken(x, 3, 4, 10);
        taken(x, 1, 15, 15);
        check.due("the rest of the state", State.of(x), before
            .replace("q2 parent 0 g 6 max 16", "q2 parent 0 g 1 max 16")
            .replace("q3 parent 1 g 3 max 12", "q3 parent 1 g 4 max 10")
            .replace("q1 parent 0 g 8 max 12", "q1 parent 0 g 15 max 15"));
    }

    private static void newCapacitiesCount() {
        CapacityQueues x = tree();
        x.submit(4, 0, 9);
        taken(x, 4, 0, 2);
        check.due("schedule()", x.schedule(), 2);
        taken(x, 4, 0, 5);
        check.due("schedule()", x.schedule(), 3);
        taken(x, 1, 3, 6);
        taken(x, 4, 0, 16);
        check.due("schedule()", x.schedule(), 1);
    }

    private static void sixteenQueues() {
        CapacityQueues x = new CapacityQueues(20, 8);
        for (int q = 1; q < CapacityQueues.MAX_QUEUES; q++) {
            x.addQueue(0, 1, 20);
        }
        refused(x, 15, 7, 20);
        refused(x, 16, 0, 20);
        taken(x, 15, 6, 20);
        refused(x, 1, 2, 20);
    }
}
