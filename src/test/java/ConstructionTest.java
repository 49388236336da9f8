/** Promise 1. */
public final class ConstructionTest {
    private static final Check check = new Check();

    public static void main(String[] args) {
        clamped(Integer.MIN_VALUE, 1);
        clamped(-1, 1);
        clamped(0, 1);
        clamped(1, 1);
        clamped(2, 2);
        clamped(63, 63);
        clamped(64, 64);
        clamped(65, 64);
        clamped(Integer.MAX_VALUE, 64);
        freshState();
        freshRootIsLeafAndIdsStartAtOne();
        unitsAndLimitNeverChange();
        objectsAreApart();
        check.end();
    }

    private static void clamped(int given, int want) {
        CapacityQueues byUnits = new CapacityQueues(given, 7);
        check.due("units " + given + ": maxCapacity(0)", byUnits.maxCapacity(0), want);
        check.due("units " + given + ": guarantee(0)", byUnits.guarantee(0), want);
        check.due("units " + given + ": userLimit()", byUnits.userLimit(), 7);
        CapacityQueues byLimit = new CapacityQueues(7, given);
        check.due("limit " + given + ": userLimit()", byLimit.userLimit(), want);
        check.due("limit " + given + ": maxCapacity(0)", byLimit.maxCapacity(0), 7);
    }

    private static void freshState() {
        CapacityQueues x = new CapacityQueues(9, 5);
        check.due("queueCount()", x.queueCount(), 1);
        check.due("parentOf(0)", x.parentOf(0), -1);
        check.due("used(0)", x.used(0), 0);
        for (int user = 0; user < CapacityQueues.USERS; user++) {
            check.due("pending(0, " + user + ")", x.pending(0, user), 0);
            check.due("userUsed(0, " + user + ")", x.userUsed(0, user), 0);
        }
        for (int id = -1; id < 100; id++) {
            check.due("containerInfo(" + id + ")", x.containerInfo(id), CapacityQueues.NONE);
        }
        check.due("schedule()", x.schedule(), 0);
        check.due("preempt()", x.preempt(), 0);
    }

    private static void freshRootIsLeafAndIdsStartAtOne() {
        CapacityQueues x = new CapacityQueues(9, 5);
        check.due("submit(0, 3, 1)", x.submit(0, 3, 1), true);
        check.due("schedule()", x.schedule(), 1);
        check.granted(x, 1, 3);
    }

    private static void unitsAndLimitNeverChange() {
        CapacityQueues x = new CapacityQueues(9, 5);
        x.addQueue(0, 4, 6);
        x.setCapacity(0, 3, 3);
        x.setCapacity(1, 2, 3);
        x.submit(1, 0, 9);
        x.schedule();
        x.preempt();
        x.complete(1);
        check.due("guarantee(0)", x.guarantee(0), 9);
        check.due("maxCapacity(0)", x.maxCapacity(0), 9);
        check.due("userLimit()", x.userLimit(), 5);
    }

    private static void objectsAreApart() {
        CapacityQueues one = new CapacityQueues(9, 5);
        CapacityQueues other = new CapacityQueues(9, 5);
        String before = State.of(other);
        one.addQueue(0, 4, 6);
        one.submit(1, 0, 3);
        one.schedule();
        check.due("the other object", State.of(other), before);
    }
}
