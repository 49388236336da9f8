/** Promise 5. */
public final class CancelTest {
    private static final Check check = new Check();

    public static void main(String[] args) {
        wrongCalls();
        wrongCallsOfAFreshObject();
        aLeafWithChildrenIsNoneAnyMore();
        formerValueMayBeZero();
        onlyOnePendingChanges();
        demandIsGone();
        check.end();
    }

    private static CapacityQueues loaded() {
        CapacityQueues x = new CapacityQueues(8, 3);
        x.addQueue(0, 4, 8);
        x.addQueue(0, 4, 8);
        for (int user = 0; user < CapacityQueues.USERS; user++) {
            x.submit(1, user, 10 + user);
            x.submit(2, user, 20 + user);
        }
        x.schedule();
        return x;
    }

    private static void refused(CapacityQueues x, int leaf, int user) {
        String before = State.of(x);
        String call = "cancel(" + leaf + ", " + user + ")";
        check.due(call, x.cancel(leaf, user), CapacityQueues.NONE);
        check.due("state after the refused " + call, State.of(x), before);
    }

    private static void wrongCalls() {
        CapacityQueues x = loaded();
        int[] leaves = {-1, 0, 3, 16, Integer.MIN_VALUE, Integer.MAX_VALUE};
        for (int leaf : leaves) {
            refused(x, leaf, 0);
        }
        int[] users = {-1, 4, Integer.MIN_VALUE, Integer.MAX_VALUE};
        for (int user : users) {
            refused(x, 1, user);
        }
    }

    private static void wrongCallsOfAFreshObject() {
        CapacityQueues x = new CapacityQueues(8, 3);
        refused(x, -1, 0);
        refused(x, 1, 0);
        refused(x, 0, -1);
        refused(x, 0, 4);
        refused(x, -1, -1);
    }

    /** "It answers NONE, changing nothing, if ... leaf has children", and not the 0 that pending answers there. */
    private static void aLeafWithChildrenIsNoneAnyMore() {
        CapacityQueues x = new CapacityQueues(8, 3);
        check.due("cancel(0, 0)", x.cancel(0, 0), 0);
        x.addQueue(0, 4, 8);
        check.due("pending(0, 0)", x.pending(0, 0), 0);
        for (int user = 0; user < CapacityQueues.USERS; user++) {
            refused(x, 0, user);
        }
        check.due("cancel(1, 0)", x.cancel(1, 0), 0);
        x.addQueue(1, 4, 8);
        refused(x, 1, 0);
    }

    /** "its former value (which may be 0)": never asked, all granted, and cancelled before. */
    private static void formerValueMayBeZero() {
        CapacityQueues x = new CapacityQueues(8, 3);
        x.submit(0, 1, 2);
        x.schedule();
        x.submit(0, 2, 1);
        String before = State.of(x);
        check.due("cancel(0, 0), never asked", x.cancel(0, 0), 0);
        check.due("cancel(0, 1), all granted", x.cancel(0, 1), 0);
        check.due("state", State.of(x), before);
        check.due("cancel(0, 2)", x.cancel(0, 2), 1);
        before = State.of(x);
        check.due("cancel(0, 2) again", x.cancel(0, 2), 0);
        check.due("state", State.of(x), before);
    }

    private static void onlyOnePendingChanges() {
        for (int user = 0; user < CapacityQueues.USERS; user++) {
            CapacityQueues x = loaded();
            String before = State.of(x);
            // Each of the eight leaf users holds one of the eight units.
            String mine = " u" + user + " " + (19 + user) + "/1";
            check.due("cancel(2, " + user + ")", x.cancel(2, user), 19 + user);
            check.due("the rest of the state", State.of(x), before.replace(mine, " u" + user + " 0/1"));
            check.due("cancel(2, " + user + ") again", x.cancel(2, user), 0);
        }
    }

    private static void demandIsGone() {
        CapacityQueues x = new CapacityQueues(8, 8);
        x.submit(0, 2, 5);
        check.due("cancel(0, 2)", x.cancel(0, 2), 5);
        check.due("schedule()", x.schedule(), 0);
        check.due("addQueue(0, 1, 1)", x.addQueue(0, 1, 1), 1);
    }
}
