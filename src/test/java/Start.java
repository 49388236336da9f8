import java.util.ArrayList;
import java.util.List;

/** A run of calls from a new object on, which can be made again and again to get the same state. */
final class Start {
    final String name;
    private final int units;
    private final int limit;
    private final List<Call> calls = new ArrayList<>();

    Start(String name, int units, int limit) {
        this.name = name;
        this.units = units;
        this.limit = limit;
    }

    Start then(String call, int... args) {
        calls.add(new Call(call, args));
        return this;
    }

    CapacityQueues object() {
        CapacityQueues x = new CapacityQueues(units, limit);
        calls.forEach(call -> call.on(x));
        return x;
    }

    Model model() {
        Model m = new Model(units, limit);
        calls.forEach(call -> call.on(m));
        return m;
    }

    static Start fresh() {
        return new Start("a fresh object", 5, 2);
    }

    static Start smallest() {
        return new Start("one unit, held, with a request more", 1, 1)
            .then("submit", 0, 0, 3).then("schedule");
    }

    /** Two levels; lent units, requests, free units, and ids gone by complete and by preempt. */
    static Start loaded() {
        return new Start("a loaded tree", 9, 4)
            .then("addQueue", 0, 5, 7).then("addQueue", 0, 2, 9).then("addQueue", 1, 3, 6).then("addQueue", 1, 1, 4)
            .then("submit", 2, 0, 4).then("submit", 2, 1, 4).then("submit", 2, 3, 6).then("schedule")
            .then("submit", 3, 1, 2).then("submit", 4, 2, 3).then("preempt")
            .then("complete", 1).then("complete", 3).then("submit", 3, 0, 5);
    }

    /** Every queue that there can be, and no free unit. */
    static Start full() {
        Start start = new Start("sixteen queues, all units held", 30, 3);
        for (int q = 1; q < CapacityQueues.MAX_QUEUES; q++) {
            int g = q < 4 ? 8 : q < 13 ? 2 : 0;
            start.then("addQueue", (q - 1) / 3, g, g + 4);
        }
        for (int q = 5; q < CapacityQueues.MAX_QUEUES; q++) {
            start.then("submit", q, q % 4, 5).then("submit", q, (q + 1) % 4, 5);
        }
        return start.then("schedule");
    }

    /** Requests and free units, but nothing scheduled yet. */
    static Start asked() {
        return new Start("requests that wait", 6, 3)
            .then("addQueue", 0, 3, 5).then("addQueue", 0, 3, 6)
            .then("submit", 1, 0, 2).then("submit", 2, 3, 64);
    }
}
