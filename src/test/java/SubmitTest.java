/** Promise 4. */
public final class SubmitTest {
    private static final Check check = new Check();

    public static void main(String[] args) {
        wrongCalls();
        onlyOnePendingChanges();
        noCapOnPending();
        check.end();
    }

    private static void refused(CapacityQueues x, int leaf, int user, int count) {
        String before = State.of(x);
        String call = "submit(" + leaf + ", " + user + ", " + count + ")";
        check.due(call, x.submit(leaf, user, count), false);
        check.due("state after the refused " + call, State.of(x), before);
    }

    private static void wrongCalls() {
        CapacityQueues x = new CapacityQueues(8, 8);
        x.addQueue(0, 4, 8);
        x.addQueue(1, 2, 8);
        int[] leaves = {-1, 0, 1, 3, 15, 16, Integer.MIN_VALUE, Integer.MAX_VALUE};
        for (int leaf : leaves) {
            refused(x, leaf, 0, 1);
        }
        int[] users = {-1, 4, Integer.MIN_VALUE, Integer.MAX_VALUE};
        for (int user : users) {
            refused(x, 2, user, 1);
        }
        int[] counts = {0, -1, 65, Integer.MIN_VALUE, Integer.MAX_VALUE};
        for (int count : counts) {
            refused(x, 2, 0, count);
        }
    }

    private static void onlyOnePendingChanges() {
        CapacityQueues x = new CapacityQueues(8, 8);
        x.addQueue(0, 4, 8);
        x.addQueue(0, 4, 8);
        for (int user = 0; user < CapacityQueues.USERS; user++) {
            String before = State.of(x);
            check.due("submit(2, " + user + ", 1)", x.submit(2, user, 1), true);
            check.due("pending(2, " + user + ")", x.pending(2, user), 1);
            check.due("submit(2, " + user + ", 64)", x.submit(2, user, 64), true);
            check.due("pending(2, " + user + ")", x.pending(2, user), 65);
            x.cancel(2, user);
            check.due("the rest of the state", State.of(x), before);
        }
    }

    private static void noCapOnPending() {
        CapacityQueues x = new CapacityQueues(8, 8);
        for (int i = 0; i < 1_000_000; i++) {
            x.submit(0, 1, 64);
        }
        check.due("pending(0, 1)", x.pending(0, 1), 64_000_000);
        check.due("schedule()", x.schedule(), 8);
        check.due("pending(0, 1)", x.pending(0, 1), 63_999_992);
    }
}
