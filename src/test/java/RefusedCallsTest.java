import java.util.TreeSet;

/**
 * Promises 2 to 6, all calls at the edges of every argument: a refused call gives the answer that is due, and then the
 * object reveals all that it did before, at once and after further calls, where it is beside a twin without the call.
 */
public final class RefusedCallsTest {
    private static final int[] USERS = {Integer.MIN_VALUE, -1, 0, 3, 4, Integer.MAX_VALUE};
    private static final int[] COUNTS = {Integer.MIN_VALUE, -1, 0, 1, 64, 65, Integer.MAX_VALUE};
    private static final Check check = new Check();

    private final Start start;
    private final String before;
    private final String later;
    private final int units;
    private final int queues;
    private int refused = 0;
    private int taken = 0;

    private RefusedCallsTest(Start start) {
        this.start = start;
        CapacityQueues twin = start.object();
        before = State.of(twin);
        units = twin.maxCapacity(0);
        queues = twin.queueCount();
        later = further(twin);
    }

    public static void main(String[] args) {
        startsAreAsTheyAreNamed();
        new RefusedCallsTest(Start.fresh()).callsAtTheEdges(true);
        new RefusedCallsTest(Start.smallest()).callsAtTheEdges(false);
        new RefusedCallsTest(Start.loaded()).callsAtTheEdges(true);
        new RefusedCallsTest(Start.asked()).callsAtTheEdges(true);
        new RefusedCallsTest(Start.full()).callsAtTheEdges(false);
        check.end();
    }

    private static void startsAreAsTheyAreNamed() {
        CapacityQueues loaded = Start.loaded().object();
        check.due("loaded: queueCount()", loaded.queueCount(), 5);
        check.due("loaded: used(0)", loaded.used(0), 7);
        check.due("loaded: containerInfo(1), completed", loaded.containerInfo(1), CapacityQueues.NONE);
        check.due("loaded: containerInfo(9), taken back", loaded.containerInfo(9), CapacityQueues.NONE);
        check.due("loaded: pending(2, 3)", loaded.pending(2, 3) > 0, true);
        CapacityQueues full = Start.full().object();
        check.due("full: queueCount()", full.queueCount(), CapacityQueues.MAX_QUEUES);
        check.due("full: used(0)", full.used(0), 30);
    }

    private void callsAtTheEdges(boolean takesQueues) {
        capacityCalls("addQueue");
        check.due(start.name + ": some addQueue is taken", taken > 0, takesQueues);
        capacityCalls("setCapacity");
        for (int leaf : queueArguments()) {
            for (int user : USERS) {
                for (int count : COUNTS) {
                    make(new Call("submit", leaf, user, count));
                }
                make(new Call("cancel", leaf, user));
            }
        }
        for (int id : idArguments()) {
            make(new Call("complete", id));
        }
        check.due(start.name + ": many calls are refused", refused > 100, true);
        check.due(start.name + ": some calls are taken", taken > 0, true);
    }

    private void capacityCalls(String name) {
        int[] capacities = {Integer.MIN_VALUE, -1, 0, 1, 2, 3, units, units + 1, Integer.MAX_VALUE};
        for (int q : queueArguments()) {
            for (int g : capacities) {
                for (int max : capacities) {
                    make(new Call(name, q, g, max));
                }
            }
        }
    }

    private TreeSet<Integer> queueArguments() {
        TreeSet<Integer> all = edges();
        for (int q = 0; q <= queues; q++) {
            all.add(q);
        }
        return all;
    }

    private TreeSet<Integer> idArguments() {
        TreeSet<Integer> all = edges();
        for (int id = 1; id <= start.model().lastId() + 1; id++) {
            all.add(id);
        }
        return all;
    }

    private static TreeSet<Integer> edges() {
        TreeSet<Integer> all = new TreeSet<>();
        for (int edge : new int[] {Integer.MIN_VALUE, -1, 0, 15, 16, Integer.MAX_VALUE}) {
            all.add(edge);
        }
        return all;
    }

    private void make(Call call) {
        CapacityQueues x = start.object();
        int want = call.on(start.model());
        String at = start.name + ": " + call;
        check.due(at, call.on(x), want);
        if (want != call.refusal()) {
            taken++;
            return;
        }
        refused++;
        check.due("the state after the refused " + at, State.of(x), before);
        check.due("further calls after the refused " + at, further(x), later);
    }

    /** What no reader shows, such as the next id, shows in later answers. */
    private static String further(CapacityQueues x) {
        StringBuilder text = new StringBuilder();
        for (int q = 0; q < x.queueCount(); q++) {
            for (int user = 0; user < CapacityQueues.USERS; user++) {
                text.append(x.submit(q, user, 1 + (q + 2 * user) % 5)).append(' ');
            }
        }
        text.append(x.schedule()).append('\n').append(State.of(x)).append('\n');
        for (int id = 1; id < 64; id += 2) {
            text.append(x.complete(id)).append(' ');
        }
        text.append(x.preempt()).append('\n').append(State.of(x)).append('\n');
        for (int q = 0; q < x.queueCount() && q < 8; q++) {
            for (int user = 0; user < CapacityQueues.USERS; user++) {
                text.append(x.cancel(q, user)).append(' ');
            }
            text.append(x.setCapacity(q, 1, x.maxCapacity(0))).append(' ');
            text.append(x.addQueue(q, 0, 3)).append('\n');
        }
        return text.append(State.of(x)).toString();
    }
}
