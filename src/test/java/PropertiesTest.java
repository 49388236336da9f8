import java.util.ArrayList;
import java.util.List;

/** The properties 1 to 5 after every call of longer runs, over the smallest, the largest and some other clusters. */
public final class PropertiesTest {
    private static final int[] UNITS = {1, 2, 7, 16, 33, 64};
    private static final int[] LIMITS = {1, 3, 64};
    private static final int CALLS = 1500;
    private static final Check check = new Check();
    private static int refused = 0;
    private static int granted = 0;
    private static int victims = 0;
    private static int fullTrees = 0;

    private final CapacityQueues x;
    private final String name;
    private final int units;
    private final List<Integer> live = new ArrayList<>();
    private long seed;
    private int lastId = 0;
    private int calls = 0;

    private PropertiesTest(int units, int limit, int shape) {
        x = new CapacityQueues(units, limit);
        name = units + " units, limit " + limit + ", shape " + shape;
        this.units = units;
        seed = units * 1000L + limit * 10L + shape;
    }

    public static void main(String[] args) {
        for (int units : UNITS) {
            for (int limit : LIMITS) {
                for (int shape = 0; shape < 3; shape++) {
                    new PropertiesTest(units, limit, shape).run(shape);
                }
            }
        }
        check.due("many calls are refused", refused > 1000, true);
        check.due("many units are granted", granted > 1000, true);
        check.due("many units are taken back", victims > 1000, true);
        check.due("some trees have sixteen queues", fullTrees > 10, true);
        check.end();
    }

    private int pick(int below) {
        seed = seed * 6364136223846793005L + 1442695040888963407L;
        return (int) ((seed >>> 33) % below);
    }

    private void run(int shape) {
        Properties.hold(check, name + ", fresh: ", x, lastId, false);
        for (int n = 1; n < CapacityQueues.MAX_QUEUES && shape > 0; n++) {
            grow(shape);
        }
        for (int n = 0; n < CALLS; n++) {
            if (n % 50 == 0) {
                lendAndTakeBack();
            }
            make(nextCall());
        }
        fullTrees += x.queueCount() == CapacityQueues.MAX_QUEUES ? 1 : 0;
    }

    /** Shape 1 is wide, with two children below each child of the root; shape 2 is deep, with a leaf at every level. */
    private void grow(int shape) {
        int parent = shape == 1 ? parentInWideTree(x.queueCount()) : parentInDeepTree(x.queueCount());
        int g = x.guarantee(parent) / (shape == 1 && parent == 0 ? 5 : 2);
        make(new Call("addQueue", parent, g, g + pick(1 + units - g)));
    }

    private static int parentInWideTree(int q) {
        return q <= 5 ? 0 : (q - 4) / 2;
    }

    private static int parentInDeepTree(int q) {
        return q <= 2 ? 0 : (q - 1) / 2 * 2 - 1;
    }

    /** Mixed calls alone seldom lend many units: here one queue gets what it can, before the others ask at once. */
    private void lendAndTakeBack() {
        for (int id : List.copyOf(live)) {
            make(new Call("complete", id));
        }
        int lent = pick(x.queueCount());
        for (int user = 0; user < CapacityQueues.USERS; user++) {
            make(new Call("submit", lent, user, CapacityQueues.MAX_SUBMIT));
        }
        make(new Call("schedule"));
        for (int q = 0; q < x.queueCount(); q++) {
            make(new Call("submit", q, pick(CapacityQueues.USERS), 1 + pick(units)));
        }
        make(new Call("preempt"));
        for (int q = 0; q < x.queueCount(); q++) {
            for (int user = 0; user < CapacityQueues.USERS; user++) {
                make(new Call("cancel", q, user));
            }
        }
    }

    private Call nextCall() {
        int q = pick(12) == 0 ? pick(20) - 2 : pick(x.queueCount());
        int user = pick(20) == 0 ? pick(8) - 2 : pick(CapacityQueues.USERS);
        int g = x.guarantee(q) + pick(5) - 2;
        int max = pick(3) == 0 ? g + pick(2 + units) : units;
        return switch (pick(20)) {
            case 0 -> new Call("addQueue", q, g, max);
            case 1 -> new Call("setCapacity", q, g, max);
            case 2 -> new Call("submit", q, user, pick(200) - 60);
            case 3, 4, 5, 6, 7, 8 -> new Call("submit", q, user, 1 + pick(units));
            case 9, 10 -> new Call("cancel", q, user);
            case 11, 12, 13, 14, 15 -> new Call("complete", nextToComplete());
            case 16, 17 -> new Call("schedule");
            default -> new Call("preempt");
        };
    }

    private int nextToComplete() {
        return live.isEmpty() || pick(10) == 0 ? pick(lastId + 3) - 1 : live.get(pick(live.size()));
    }

    private void make(Call call) {
        calls++;
        int answer = call.on(x);
        boolean preempted = call.name().equals("preempt");
        boolean scheduled = call.name().equals("schedule");
        refused += !preempted && !scheduled && answer == call.refusal() ? 1 : 0;
        victims += preempted ? answer : 0;
        findNewIds();
        Properties.hold(check, name + ", call " + calls + ", " + call + ": ", x, lastId, preempted);
    }

    /** One call issues at most C ids by its fill and MAX_ROUNDS by its rounds, and the last of them is live after it. */
    private void findNewIds() {
        int before = lastId;
        for (int id = before + 1; id <= before + units + CapacityQueues.MAX_ROUNDS; id++) {
            if (x.containerInfo(id) != CapacityQueues.NONE) {
                live.add(id);
                lastId = id;
            }
        }
        live.removeIf(id -> x.containerInfo(id) == CapacityQueues.NONE);
        granted += lastId - before;
    }
}
