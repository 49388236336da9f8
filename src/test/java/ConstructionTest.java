/** Promise 1. */
public final class ConstructionTest {
    private static final Check check = new Check();

    public static void main(String[] args) {
        clamped(Integer.MIN_VALUE, 1);
        clamped(-1, 1);
        clamped(0, 1);
        clamped(1, 1);
        clamped(2, 2);
        clamped(63, 63);
        clamped(64, 64);
        clamped(65, 64);
        clamped(Integer.MAX_VALUE, 64);
        bothClampedAtOnce();
        clampedUnitsAndLimitCount();
        freshState();
        nothingIsThereToTakeAway();
        freshRootIsLeafAndIdsStartAtOne();
        unitsAndLimitNeverChange();
        objectsAreApart();
        check.end();
    }

    private static void clamped(int given, int want) {
        CapacityQueues byUnits = new CapacityQueues(given, 7);
        check.due("units " + given + ": maxCapacity(0)", byUnits.maxCapacity(0), want);
        check.due("units " + given + ": guarantee(0)", byUnits.guarantee(0), want);
        check.due("units " + given + ": userLimit()", byUnits.userLimit(), 7);
        CapacityQueues byLimit = new CapacityQueues(7, given);
        check.due("limit " + given + ": userLimit()", byLimit.userLimit(), want);
        check.due("limit " + given + ": maxCapacity(0)", byLimit.maxCapacity(0), 7);
    }

    private static void bothClampedAtOnce() {
        int[] given = {Integer.MIN_VALUE, 0, 1, 64, 65, Integer.MAX_VALUE};
        int[] want = {1, 1, 1, 64, 64, 64};
        for (int u = 0; u < given.length; u++) {
            for (int l = 0; l < given.length; l++) {
                CapacityQueues x = new CapacityQueues(given[u], given[l]);
                String at = "(" + given[u] + ", " + given[l] + ")";
                check.due(at + " maxCapacity(0)", x.maxCapacity(0), want[u]);
                check.due(at + " guarantee(0)", x.guarantee(0), want[u]);
                check.due(at + " userLimit()", x.userLimit(), want[l]);
            }
        }
    }

    /** The clamped values are those that scheduling goes by, not only those that the readers answer. */
    private static void clampedUnitsAndLimitCount() {
        int[] given = {-7, 0, 1, 64, 65, 1000};
        int[] want = {1, 1, 1, 64, 64, 64};
        for (int i = 0; i < given.length; i++) {
            CapacityQueues byUnits = new CapacityQueues(given[i], 64);
            check.due("units " + given[i] + ": a maximum of C", byUnits.addQueue(0, want[i], want[i]), 1);
            check.due("units " + given[i] + ": one above C", byUnits.addQueue(0, 0, want[i] + 1), CapacityQueues.NONE);
            byUnits.submit(1, 0, 64);
            byUnits.submit(1, 1, 64);
            check.due("units " + given[i] + ": schedule()", byUnits.schedule(), want[i]);
            CapacityQueues byLimit = new CapacityQueues(64, given[i]);
            byLimit.submit(0, 2, 64);
            byLimit.submit(0, 2, 64);
            check.due("limit " + given[i] + ": schedule()", byLimit.schedule(), want[i]);
        }
    }

    /** "There are no pending requests ... and no containers": cancel and complete find nothing. */
    private static void nothingIsThereToTakeAway() {
        CapacityQueues x = new CapacityQueues(9, 5);
        String before = State.of(x);
        for (int user = 0; user < CapacityQueues.USERS; user++) {
            check.due("cancel(0, " + user + ")", x.cancel(0, user), 0);
        }
        for (int id = -1; id < 66; id++) {
            check.due("complete(" + id + ")", x.complete(id), false);
        }
        check.due("setCapacity(0, 9, 9)", x.setCapacity(0, 9, 9), false);
        check.due("the fresh state", State.of(x), before);
    }

    private static void freshState() {
        CapacityQueues x = new CapacityQueues(9, 5);
        check.due("queueCount()", x.queueCount(), 1);
        check.due("parentOf(0)", x.parentOf(0), -1);
        check.due("used(0)", x.used(0), 0);
        for (int user = 0; user < CapacityQueues.USERS; user++) {
            check.due("pending(0, " + user + ")", x.pending(0, user), 0);
            check.due("userUsed(0, " + user + ")", x.userUsed(0, user), 0);
        }
        for (int id = -1; id < 100; id++) {
            check.due("containerInfo(" + id + ")", x.containerInfo(id), CapacityQueues.NONE);
        }
        check.due("schedule()", x.schedule(), 0);
        check.due("preempt()", x.preempt(), 0);
    }

    private static void freshRootIsLeafAndIdsStartAtOne() {
        CapacityQueues x = new CapacityQueues(9, 5);
        check.due("submit(0, 3, 1)", x.submit(0, 3, 1), true);
        check.due("schedule()", x.schedule(), 1);
        check.granted(x, 1, 3);
    }

    private static void unitsAndLimitNeverChange() {
        CapacityQueues x = new CapacityQueues(9, 5);
        x.addQueue(0, 4, 6);
        x.setCapacity(0, 3, 3);
        x.setCapacity(1, 2, 3);
        x.submit(1, 0, 9);
        x.schedule();
        x.preempt();
        x.complete(1);
        check.due("guarantee(0)", x.guarantee(0), 9);
        check.due("maxCapacity(0)", x.maxCapacity(0), 9);
        check.due("userLimit()", x.userLimit(), 5);
    }

    private static void objectsAreApart() {
        CapacityQueues one = new CapacityQueues(9, 5);
        CapacityQueues other = new CapacityQueues(9, 5);
        String before = State.of(other);
        one.addQueue(0, 4, 6);
        one.submit(1, 0, 3);
        one.schedule();
        check.due("the other object", State.of(other), before);
    }
}
