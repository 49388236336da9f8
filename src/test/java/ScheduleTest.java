/** Promise 7. */
public final class ScheduleTest {
    private static final Check check = new Check();

    public static void main(String[] args) {
        nothingToDo();
        rootIsNotOpen();
        answersUpToAllUnits();
        stepsGoOnUntilTheRootIsClosed();
        leastServedUserFirst();
        userLimitHolds();
        lightestByRatio();
        ratiosAreExact();
        guaranteedBeforeUnguaranteed();
        unguaranteedByUsage();
        tiesGoToTheLowestId();
        maximumsOnThePathHold();
        walkGoesOnlyThroughOpenQueues();
        walkDecidesAtEveryLevel();
        leafGrowsPastItsGuarantee();
        capacitiesAndContainersStay();
        check.end();
    }

    private static int at(int leaf, int user) {
        return leaf * CapacityQueues.USERS + user;
    }

    private static void nothingToDo() {
        CapacityQueues x = new CapacityQueues(4, 4);
        x.addQueue(0, 2, 2);
        x.addQueue(0, 0, 0);
        x.submit(2, 0, 5);
        String before = State.of(x);
        check.due("schedule() with a maximum of 0", x.schedule(), 0);
        check.due("state", State.of(x), before);
        x.submit(1, 0, 5);
        check.due("schedule()", x.schedule(), 2);
        before = State.of(x);
        check.due("schedule() again", x.schedule(), 0);
        check.due("state", State.of(x), before);
    }

    private static void closed(String why, CapacityQueues x) {
        String before = State.of(x);
        check.due("schedule(), " + why, x.schedule(), 0);
        check.due("state, " + why, State.of(x), before);
    }

    /** "If the root is not open, it answers 0 and nothing changes", for each reason why it may not be open. */
    private static void rootIsNotOpen() {
        closed("a fresh object", new CapacityQueues(4, 4));
        closed("a root with children and no request", asking(4, 4, 0));
        CapacityQueues held = asking(4, 4, 3);
        held.schedule();
        closed("all requests granted", held);
        CapacityQueues cancelled = asking(4, 4, 3);
        cancelled.cancel(1, 0);
        closed("all requests cancelled", cancelled);
        CapacityQueues limited = asking(4, 1, 3);
        limited.schedule();
        closed("the user at the limit", limited);
        CapacityQueues full = asking(4, 4, 9);
        full.schedule();
        closed("no free unit", full);
        CapacityQueues shut = asking(4, 4, 3);
        check.due("setCapacity(1, 0, 0)", shut.setCapacity(1, 0, 0), true);
        closed("a maximum of 0", shut);
    }

    private static CapacityQueues asking(int units, int limit, int count) {
        CapacityQueues x = new CapacityQueues(units, limit);
        x.addQueue(0, 1, units);
        if (count > 0) {
            x.submit(1, 0, count);
        }
        return x;
    }

    /** "the number of containers it created, which is in 0..C" */
    private static void answersUpToAllUnits() {
        for (int units = 1; units <= 64; units++) {
            for (int count : new int[] {units - 1, units, units + 1}) {
                CapacityQueues x = new CapacityQueues(units, 64);
                for (int i = 0; i < count; i++) {
                    x.submit(0, i % 4, 1);
                }
                int want = Math.min(count, units);
                check.due("schedule() for " + count + " of " + units, x.schedule(), want);
                check.due("used(0)", x.used(0), want);
                check.due("the last container is live", x.complete(want), want > 0);
                check.due("no container more", x.complete(want + 1), false);
            }
        }
    }

    /** "steps continue until the root is no longer open", over sixteen queues that close one after another. */
    private static void stepsGoOnUntilTheRootIsClosed() {
        CapacityQueues x = new CapacityQueues(64, 2);
        int want = 0;
        for (int q = 1; q < CapacityQueues.MAX_QUEUES; q++) {
            x.addQueue(0, 4, 4);
            x.submit(q, 0, q);
            x.submit(q, 1, 1);
            want += Math.min(q, 2) + 1;
        }
        check.due("schedule()", x.schedule(), want);
        check.due("used(1), by its requests", x.used(1), 2);
        check.due("used(15), by the user limit", x.used(15), 3);
        closed("every leaf is closed", x);
    }

    private static void leastServedUserFirst() {
        CapacityQueues x = new CapacityQueues(9, 9);
        x.submit(0, 2, 3);
        check.due("schedule()", x.schedule(), 3);
        x.submit(0, 3, 2);
        x.submit(0, 1, 9);
        x.submit(0, 2, 9);
        check.due("schedule()", x.schedule(), 6);
        check.granted(x, 1, 2, 2, 2, 1, 3, 1, 3, 1, 1);
        check.due("pending(0, 1)", x.pending(0, 1), 5);
        check.due("pending(0, 2)", x.pending(0, 2), 9);
        check.due("pending(0, 3)", x.pending(0, 3), 0);
    }

    private static void userLimitHolds() {
        CapacityQueues x = new CapacityQueues(20, 2);
        x.addQueue(0, 5, 20);
        x.addQueue(0, 5, 20);
        x.submit(1, 0, 9);
        x.submit(1, 3, 1);
        x.submit(2, 0, 9);
        check.due("schedule()", x.schedule(), 5);
        check.due("userUsed(1, 0)", x.userUsed(1, 0), 2);
        check.due("userUsed(1, 3)", x.userUsed(1, 3), 1);
        check.due("userUsed(2, 0)", x.userUsed(2, 0), 2);
        check.due("pending(1, 0)", x.pending(1, 0), 7);
        x.complete(1);
        check.due("schedule() after a release", x.schedule(), 1);
    }

    private static void lightestByRatio() {
        CapacityQueues x = new CapacityQueues(9, 9);
        x.addQueue(0, 3, 9);
        x.addQueue(0, 6, 9);
        x.submit(1, 0, 9);
        x.submit(2, 0, 9);
        check.due("schedule()", x.schedule(), 9);
        check.granted(x, 1, at(1, 0), at(2, 0), at(2, 0), at(1, 0), at(2, 0), at(2, 0), at(1, 0), at(2, 0), at(2, 0));
    }

    private static void ratiosAreExact() {
        CapacityQueues x = new CapacityQueues(8, 9);
        x.addQueue(0, 2, 8);
        x.addQueue(0, 5, 8);
        x.submit(1, 0, 1);
        x.submit(2, 0, 2);
        x.schedule();
        x.submit(1, 0, 9);
        x.submit(2, 0, 9);
        // 1 of 2 against 2 of 5: quotients cut to whole numbers would be the same.
        check.due("schedule()", x.schedule(), 5);
        check.granted(x, 4, at(2, 0), at(1, 0), at(2, 0), at(2, 0), at(1, 0));
    }

    private static void guaranteedBeforeUnguaranteed() {
        CapacityQueues x = new CapacityQueues(8, 9);
        x.addQueue(0, 0, 8);
        x.addQueue(0, 1, 4);
        x.submit(1, 0, 9);
        x.submit(2, 0, 9);
        check.due("schedule()", x.schedule(), 8);
        check.granted(x, 1, at(2, 0), at(2, 0), at(2, 0), at(2, 0), at(1, 0), at(1, 0), at(1, 0), at(1, 0));
    }

    private static void unguaranteedByUsage() {
        CapacityQueues x = new CapacityQueues(8, 9);
        x.addQueue(0, 0, 8);
        x.addQueue(0, 0, 8);
        x.submit(1, 0, 2);
        x.schedule();
        x.submit(1, 0, 9);
        x.submit(2, 0, 9);
        check.due("schedule()", x.schedule(), 6);
        check.granted(x, 3, at(2, 0), at(2, 0), at(1, 0), at(2, 0), at(1, 0), at(2, 0));
    }

    private static void tiesGoToTheLowestId() {
        CapacityQueues x = new CapacityQueues(6, 9);
        x.addQueue(0, 2, 6);
        x.addQueue(0, 1, 6);
        x.addQueue(0, 1, 6);
        x.submit(3, 0, 9);
        x.submit(2, 0, 9);
        x.submit(1, 0, 9);
        check.due("schedule()", x.schedule(), 6);
        check.granted(x, 1, at(1, 0), at(2, 0), at(3, 0), at(1, 0), at(1, 0), at(2, 0));
    }

    private static void maximumsOnThePathHold() {
        CapacityQueues x = new CapacityQueues(12, 12);
        x.addQueue(0, 4, 5);
        x.addQueue(1, 2, 3);
        x.addQueue(1, 2, 12);
        x.addQueue(0, 0, 4);
        x.submit(2, 0, 20);
        x.submit(3, 0, 20);
        x.submit(4, 0, 20);
        check.due("schedule()", x.schedule(), 9);
        check.due("used(1)", x.used(1), 5);
        check.due("used(2)", x.used(2), 3);
        check.due("used(3)", x.used(3), 2);
        check.due("used(4)", x.used(4), 4);
        CapacityQueues root = new CapacityQueues(3, 64);
        root.submit(0, 0, 64);
        check.due("schedule() at the root", root.schedule(), 3);
    }

    private static void walkGoesOnlyThroughOpenQueues() {
        CapacityQueues x = new CapacityQueues(10, 2);
        x.addQueue(0, 5, 10);
        x.addQueue(1, 5, 10);
        x.addQueue(1, 0, 10);
        x.addQueue(0, 1, 10);
        // Queue 2 is the lighter child of the lighter child but its one user is at the limit.
        x.submit(2, 1, 5);
        check.due("schedule()", x.schedule(), 2);
        x.submit(3, 2, 1);
        x.submit(4, 3, 2);
        check.due("schedule()", x.schedule(), 3);
        check.granted(x, 1, at(2, 1), at(2, 1), at(4, 3), at(3, 2), at(4, 3));
    }

    private static void walkDecidesAtEveryLevel() {
        CapacityQueues x = new CapacityQueues(8, 8);
        x.addQueue(0, 4, 8);
        x.addQueue(0, 4, 8);
        x.addQueue(1, 1, 8);
        x.addQueue(1, 3, 8);
        x.addQueue(2, 1, 8);
        for (int leaf = 3; leaf <= 5; leaf++) {
            x.submit(leaf, 0, 8);
        }
        check.due("schedule()", x.schedule(), 8);
        check.granted(x, 1, at(3, 0), at(5, 0), at(4, 0), at(5, 0), at(4, 0), at(5, 0), at(4, 0), at(5, 0));
    }

    private static void leafGrowsPastItsGuarantee() {
        CapacityQueues x = new CapacityQueues(10, 10);
        x.addQueue(0, 2, 8);
        x.addQueue(0, 8, 10);
        x.submit(1, 0, 20);
        check.due("schedule()", x.schedule(), 8);
    }

    private static void capacitiesAndContainersStay() {
        CapacityQueues x = new CapacityQueues(4, 4);
        x.addQueue(0, 1, 4);
        x.addQueue(0, 3, 4);
        x.submit(1, 0, 4);
        check.due("schedule()", x.schedule(), 4);
        x.submit(2, 0, 4);
        String before = State.of(x);
        check.due("schedule() takes nothing back", x.schedule(), 0);
        check.due("state", State.of(x), before);
    }
}
