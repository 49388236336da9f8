/** Long runs of mixed calls: every answer and every state against the model, and properties 1 to 5 after each call. */
public final class ModelRunsTest {
    private static final int RUNS = 500;
    private static final int CALLS = 120;
    private static final Check check = new Check();
    private static long seed;

    public static void main(String[] args) {
        for (int run = 1; run <= RUNS; run++) {
            seed = run;
            run(run);
        }
        check.end();
    }

    private static int pick(int below) {
        seed = seed * 6364136223846793005L + 1442695040888963407L;
        return (int) ((seed >>> 33) % below);
    }

    private static void run(int run) {
        int units = run % 3 == 0 ? pick(70) - 2 : 4 + pick(24);
        int limit = run % 2 == 0 ? pick(68) - 2 : 1 + pick(8);
        CapacityQueues x = new CapacityQueues(units, limit);
        Model m = new Model(units, limit);
        if (run % 4 < 2) {
            grow(run, x, m);
        }
        for (int n = 0; n < CALLS; n++) {
            String where = "run " + run + ", call " + n + ": ";
            boolean preempted = call(where, x, m);
            sameState(where, x, m);
            Properties.hold(check, where, x, m.lastId(), preempted);
        }
    }

    /** Mixed calls alone seldom make a full tree, because a leaf that is busy gets no child. */
    private static void grow(int run, CapacityQueues x, Model m) {
        int reach = run % 4 == 0 ? 5 : 16;
        for (int n = 0; n < 60; n++) {
            int parent = pick(Math.min(reach, m.queues.size()));
            int g = pick(1 + m.queues.get(parent).g / 2);
            int max = g + pick(m.units);
            String where = "run " + run + ", growing: ";
            check.due(where + "addQueue", x.addQueue(parent, g, max), m.addQueue(parent, g, max));
            sameState(where, x, m);
            Properties.hold(check, where, x, m.lastId(), false);
        }
    }

    /** Answers whether the call was preempt. */
    private static boolean call(String where, CapacityQueues x, Model m) {
        int q = pick(m.queues.size() + 2) - 1;
        int g = pick(8) - 1;
        int max = g + pick(m.units) - 1;
        int user = pick(20) == 0 ? pick(7) - 2 : pick(4);
        int id = 1 + pick(m.lastId() + 2);
        switch (pick(20)) {
            case 0, 1, 2 -> check.due(where + "addQueue " + q + " " + g + " " + max, x.addQueue(q, g, max), m.addQueue(q, g, max));
            case 3, 4 -> check.due(where + "setCapacity " + q + " " + g + " " + max, x.setCapacity(q, g, max), m.setCapacity(q, g, max));
            case 5, 6, 7, 8, 9, 10 -> {
                int count = pick(30) == 0 ? pick(140) - 40 : 1 + pick(m.limit < 6 ? 12 : 40);
                check.due(where + "submit " + q + " " + user + " " + count, x.submit(q, user, count), m.submit(q, user, count));
            }
            case 11 -> check.due(where + "cancel " + q + " " + user, x.cancel(q, user), m.cancel(q, user));
            case 12, 13, 14, 15 -> check.due(where + "complete " + id, x.complete(id), m.complete(id));
            case 16, 17 -> check.due(where + "schedule", x.schedule(), m.schedule());
            default -> {
                check.due(where + "preempt", x.preempt(), m.preempt());
                // After a fill a starved leaf has a full ancestor, and there another leaf holds lent units. So no run
                // can show a pass that ends after step 2 or 3; this shows that none does.
                check.due(where + "the pass ended at a starved leaf", m.endedAt > 1, false);
                return true;
            }
        }
        return false;
    }

    private static void sameState(String where, CapacityQueues x, Model m) {
        check.due(where + "queueCount()", x.queueCount(), m.queues.size());
        check.due(where + "userLimit()", x.userLimit(), m.limit);
        for (Model.Queue q : m.queues) {
            String at = where + "queue " + q.id + " ";
            check.due(at + "parentOf", x.parentOf(q.id), q.parent == null ? -1 : q.parent.id);
            check.due(at + "guarantee", x.guarantee(q.id), q.g);
            check.due(at + "maxCapacity", x.maxCapacity(q.id), q.max);
            check.due(at + "used", x.used(q.id), m.used(q));
            for (int user = 0; user < 4; user++) {
                check.due(at + "pending " + user, x.pending(q.id, user), q.pending[user]);
                check.due(at + "userUsed " + user, x.userUsed(q.id, user), m.userUsed(q, user));
            }
        }
        for (int id = -1; id <= m.lastId() + 1; id++) {
            Model.Container c = m.live.get(id);
            check.due(where + "containerInfo " + id, x.containerInfo(id), c == null ? -1 : c.leaf().id * 4 + c.user());
        }
    }
}
