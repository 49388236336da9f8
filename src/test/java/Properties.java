/** The properties 1 to 5 of "What holds after every call", looked at through the readers alone. */
final class Properties {
    private final Check check;
    private final CapacityQueues x;
    private final int count;
    private final int[] children;
    private final int[] childUse;
    private final int[] childGuarantees;
    private final int[] live;

    private Properties(Check check, CapacityQueues x, int lastId) {
        this.check = check;
        this.x = x;
        count = x.queueCount();
        children = new int[count];
        childUse = new int[count];
        childGuarantees = new int[count];
        for (int q = 1; q < count; q++) {
            children[x.parentOf(q)]++;
            childUse[x.parentOf(q)] += x.used(q);
            childGuarantees[x.parentOf(q)] += x.guarantee(q);
        }
        live = new int[count];
        for (int id = 1; id <= lastId; id++) {
            int info = x.containerInfo(id);
            if (info != CapacityQueues.NONE) {
                live[info / CapacityQueues.USERS]++;
            }
        }
    }

    /** Property 5 is looked at when the call was preempt. */
    static void hold(Check check, String where, CapacityQueues x, int lastId, boolean preempted) {
        Properties properties = new Properties(check, x, lastId);
        for (int q = 0; q < properties.count; q++) {
            properties.holdAt(where + "queue " + q + " ", q, preempted);
        }
    }

    private void holdAt(String at, int q, boolean preempted) {
        if (children[q] == 0) {
            leafHolds(at, q, preempted);
        } else {
            check.due(at + "property 2", x.used(q), childUse[q]);
            check.due(at + "holds no container itself", live[q], 0);
        }
        check.due(at + "property 3", x.used(q) >= 0 && x.used(q) <= x.maxCapacity(q), true);
        check.due(at + "property 4", childGuarantees[q] <= x.guarantee(q), true);
    }

    private void leafHolds(String at, int leaf, boolean preempted) {
        int held = 0;
        int demand = 0;
        for (int user = 0; user < CapacityQueues.USERS; user++) {
            held += x.userUsed(leaf, user);
            int room = x.userLimit() - x.userUsed(leaf, user);
            demand += room > 0 ? Math.min(x.pending(leaf, user), room) : 0;
            check.due(at + "the user limit", room >= 0, true);
        }
        int used = x.used(leaf);
        int guarantee = x.guarantee(leaf);
        check.due(at + "property 1, users", used, held);
        check.due(at + "property 1, containers", used, live[leaf]);
        if (preempted) {
            check.due(at + "property 5", used >= guarantee || demand == 0, true);
            check.due(at + "property 5, as a minimum", used >= Math.min(guarantee, used + demand), true);
        }
    }
}
