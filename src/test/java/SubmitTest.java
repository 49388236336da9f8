/** Promise 4. */
public final class SubmitTest {
    private static final Check check = new Check();

    public static void main(String[] args) {
        wrongCalls();
        wrongCallsOfAFreshObject();
        aLeafWithChildrenIsNoneAnyMore();
        countsAtTheirBounds();
        onlyOnePendingChanges();
        nothingIsGranted();
        noCapOnPending();
        pendingWrapsAroundAsAnInt();
        check.end();
    }

    private static void refused(CapacityQueues x, int leaf, int user, int count) {
        String before = State.of(x);
        String call = "submit(" + leaf + ", " + user + ", " + count + ")";
        check.due(call, x.submit(leaf, user, count), false);
        check.due("state after the refused " + call, State.of(x), before);
    }

    private static void wrongCalls() {
        CapacityQueues x = new CapacityQueues(8, 8);
        x.addQueue(0, 4, 8);
        x.addQueue(1, 2, 8);
        x.submit(2, 0, 9);
        x.submit(2, 3, 1);
        x.schedule();
        int[] leaves = {-1, 0, 1, 3, 15, 16, Integer.MIN_VALUE, Integer.MAX_VALUE};
        for (int leaf : leaves) {
            refused(x, leaf, 0, 1);
        }
        int[] users = {-1, 4, Integer.MIN_VALUE, Integer.MAX_VALUE};
        for (int user : users) {
            refused(x, 2, user, 1);
        }
        int[] counts = {0, -1, 65, Integer.MIN_VALUE, Integer.MAX_VALUE};
        for (int count : counts) {
            refused(x, 2, 0, count);
        }
    }

    private static void wrongCallsOfAFreshObject() {
        CapacityQueues x = new CapacityQueues(8, 8);
        refused(x, -1, 0, 1);
        refused(x, 1, 0, 1);
        refused(x, 0, -1, 1);
        refused(x, 0, 4, 1);
        refused(x, 0, 0, 0);
        refused(x, 0, 0, 65);
        refused(x, -1, -1, 0);
    }

    /** "1. leaf not in 0..queueCount()-1, or leaf has children." */
    private static void aLeafWithChildrenIsNoneAnyMore() {
        CapacityQueues x = new CapacityQueues(8, 8);
        check.due("submit(0, 0, 1)", x.submit(0, 0, 1), true);
        x.cancel(0, 0);
        x.addQueue(0, 4, 8);
        refused(x, 0, 0, 1);
        check.due("submit(1, 0, 1)", x.submit(1, 0, 1), true);
        x.cancel(1, 0);
        x.addQueue(1, 4, 8);
        refused(x, 1, 0, 1);
        check.due("submit(2, 0, 1)", x.submit(2, 0, 1), true);
    }

    /** "3. count < 1 or count > 64.", for every leaf and user. */
    private static void countsAtTheirBounds() {
        CapacityQueues x = new CapacityQueues(8, 8);
        x.addQueue(0, 4, 8);
        x.addQueue(0, 4, 8);
        for (int leaf = 1; leaf <= 2; leaf++) {
            for (int user = 0; user < CapacityQueues.USERS; user++) {
                refused(x, leaf, user, 0);
                check.due("submit of 1", x.submit(leaf, user, 1), true);
                check.due("pending", x.pending(leaf, user), 1);
                check.due("submit of 64", x.submit(leaf, user, CapacityQueues.MAX_SUBMIT), true);
                check.due("pending", x.pending(leaf, user), 65);
                refused(x, leaf, user, CapacityQueues.MAX_SUBMIT + 1);
            }
        }
    }

    /** "Nothing is granted by this call", though there are free units. */
    private static void nothingIsGranted() {
        CapacityQueues x = new CapacityQueues(8, 8);
        check.due("submit(0, 2, 5)", x.submit(0, 2, 5), true);
        check.due("queue 0", State.queue(x, 0),
            "q0 parent -1 g 8 max 8 used 0 u-1 -1/-1 u0 0/0 u1 0/0 u2 5/0 u3 0/0 u4 -1/-1");
        check.due("the containers", State.containers(x), "");
        check.due("schedule()", x.schedule(), 5);
    }

    private static void onlyOnePendingChanges() {
        CapacityQueues x = new CapacityQueues(8, 8);
        x.addQueue(0, 4, 8);
        x.addQueue(0, 4, 8);
        for (int user = 0; user < CapacityQueues.USERS; user++) {
            String before = State.of(x);
            check.due("submit(2, " + user + ", 1)", x.submit(2, user, 1), true);
            check.due("pending(2, " + user + ")", x.pending(2, user), 1);
            check.due("submit(2, " + user + ", 64)", x.submit(2, user, 64), true);
            check.due("pending(2, " + user + ")", x.pending(2, user), 65);
            x.cancel(2, user);
            check.due("the rest of the state", State.of(x), before);
        }
    }

    private static void noCapOnPending() {
        CapacityQueues x = new CapacityQueues(8, 8);
        for (int i = 0; i < 1_000_000; i++) {
            x.submit(0, 1, 64);
        }
        check.due("pending(0, 1)", x.pending(0, 1), 64_000_000);
        check.due("schedule()", x.schedule(), 8);
        check.due("pending(0, 1)", x.pending(0, 1), 63_999_992);
    }

    /** "an int without a cap of its own": it counts up to the largest int, and from there on as Java's int does. */
    private static void pendingWrapsAroundAsAnInt() {
        CapacityQueues x = new CapacityQueues(8, 3);
        x.addQueue(0, 8, 8);
        for (int i = 0; i < Integer.MAX_VALUE / 64; i++) {
            x.submit(1, 1, 64);
        }
        check.due("submit(1, 1, 63)", x.submit(1, 1, 63), true);
        check.due("pending(1, 1), the largest int", x.pending(1, 1), Integer.MAX_VALUE);
        check.due("schedule() up to the user limit", x.schedule(), 3);
        check.due("pending(1, 1)", x.pending(1, 1), Integer.MAX_VALUE - 3);
        check.due("submit(1, 1, 4)", x.submit(1, 1, 4), true);
        check.due("pending(1, 1), wrapped", x.pending(1, 1), Integer.MIN_VALUE);
        x.submit(1, 2, 1);
        check.due("schedule(), where a user at the limit is no term of E(L)", x.schedule(), 1);
        check.due("complete(1)", x.complete(1), true);
        check.due("schedule() without a request above 0", x.schedule(), 0);
        check.due("preempt() without a request above 0", x.preempt(), 0);
        check.due("cancel(1, 1), the former value", x.cancel(1, 1), Integer.MIN_VALUE);
        check.due("pending(1, 1)", x.pending(1, 1), 0);
    }
}
