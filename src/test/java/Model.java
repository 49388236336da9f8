import java.util.ArrayList;
import java.util.List;
import java.util.TreeMap;
import java.util.stream.IntStream;

/** The document's words once more, as a tree of objects, to compare the program with. */
final class Model {
    static final class Queue {
        final int id;
        final Queue parent;
        final List<Queue> children = new ArrayList<>();
        final int[] pending = new int[4];
        int g;
        int max;

        Queue(int id, Queue parent, int g, int max) {
            this.id = id;
            this.parent = parent;
            this.g = g;
            this.max = max;
        }

        boolean isLeaf() {
            return children.isEmpty();
        }

        int childGuarantees() {
            return children.stream().mapToInt(c -> c.g).sum();
        }

        boolean isBelow(Queue q) {
            return parent != null && (parent == q || parent.isBelow(q));
        }
    }

    record Container(Queue leaf, int user) {
    }

    final int units;
    final int limit;
    final List<Queue> queues = new ArrayList<>();
    final TreeMap<Integer, Container> live = new TreeMap<>();
    /** The place in promise 8 where the last pass ended: after step 1, 2 or 3 of a round, or 0 after the last round. */
    int endedAt = 0;
    private int nextId = 1;

    Model(int clusterUnits, int userLimit) {
        units = Math.min(64, Math.max(1, clusterUnits));
        limit = Math.min(64, Math.max(1, userLimit));
        queues.add(new Queue(0, null, units, units));
    }

    private Queue find(int q) {
        return q >= 0 && q < queues.size() ? queues.get(q) : null;
    }

    private Queue findLeaf(int q) {
        Queue found = find(q);
        return found != null && found.isLeaf() ? found : null;
    }

    int used(Queue q) {
        return (int) live.values().stream().filter(c -> c.leaf() == q || c.leaf().isBelow(q)).count();
    }

    int userUsed(Queue leaf, int user) {
        return (int) live.values().stream().filter(c -> c.leaf() == leaf && c.user() == user).count();
    }

    int addQueue(int parent, int g, int max) {
        Queue p = find(parent);
        if (queues.size() == 16 || p == null) {
            return -1;
        }
        boolean asked = IntStream.of(p.pending).anyMatch(count -> count > 0);
        if (p.isLeaf() && (used(p) > 0 || asked)) {
            return -1;
        }
        if (g < 0 || max < g || max > units || p.childGuarantees() + g > p.g) {
            return -1;
        }
        Queue q = new Queue(queues.size(), p, g, max);
        queues.add(q);
        p.children.add(q);
        return q.id;
    }

    boolean setCapacity(int id, int g, int max) {
        Queue q = find(id);
        if (q == null || id == 0 || g < 0 || max < g || max > units || max < used(q)) {
            return false;
        }
        int others = q.parent.children.stream().filter(c -> c != q).mapToInt(c -> c.g).sum();
        if (g < q.childGuarantees() || others + g > q.parent.g) {
            return false;
        }
        q.g = g;
        q.max = max;
        return true;
    }

    boolean submit(int leaf, int user, int count) {
        Queue q = findLeaf(leaf);
        if (q == null || user < 0 || user > 3 || count < 1 || count > 64) {
            return false;
        }
        q.pending[user] += count;
        return true;
    }

    int cancel(int leaf, int user) {
        Queue q = findLeaf(leaf);
        if (q == null || user < 0 || user > 3) {
            return -1;
        }
        int former = q.pending[user];
        q.pending[user] = 0;
        return former;
    }

    boolean complete(int id) {
        return live.remove(id) != null;
    }

    int demand(Queue leaf) {
        int sum = 0;
        for (int k = 0; k < 4; k++) {
            int room = limit - userUsed(leaf, k);
            sum += room > 0 ? Math.min(leaf.pending[k], room) : 0;
        }
        return sum;
    }

    private boolean hasRoom(Queue q) {
        return q == null || used(q) < q.max && hasRoom(q.parent);
    }

    private boolean isOpen(Queue q) {
        if (q.isLeaf()) {
            return demand(q) > 0 && hasRoom(q);
        }
        return q.children.stream().anyMatch(this::isOpen);
    }

    private boolean isLighter(Queue a, Queue b) {
        return a.g > 0 && b.g == 0
            || a.g > 0 && b.g > 0 && used(a) * b.g < used(b) * a.g
            || a.g == 0 && b.g == 0 && used(a) < used(b);
    }

    private Queue lightest(List<Queue> set) {
        return set.stream().filter(c -> set.stream().noneMatch(d -> isLighter(d, c))).findFirst().orElseThrow();
    }

    private void grant(Queue leaf) {
        int least = -1;
        for (int k = 3; k >= 0; k--) {
            boolean eligible = leaf.pending[k] > 0 && userUsed(leaf, k) < limit;
            if (eligible && (least < 0 || userUsed(leaf, k) <= userUsed(leaf, least))) {
                least = k;
            }
        }
        leaf.pending[least]--;
        live.put(nextId++, new Container(leaf, least));
    }

    int schedule() {
        int steps = 0;
        while (isOpen(queues.get(0))) {
            Queue q = queues.get(0);
            while (!q.isLeaf()) {
                q = lightest(q.children.stream().filter(this::isOpen).toList());
            }
            grant(q);
            steps++;
        }
        return steps;
    }

    int preempt() {
        schedule();
        for (int victims = 0; victims < 64; victims++) {
            Queue starved = queues.stream()
                .filter(q -> q.isLeaf() && used(q) < q.g && demand(q) > 0).findFirst().orElse(null);
            if (starved == null) {
                endedAt = 1;
                return victims;
            }
            Queue full = starved.parent;
            while (full != null && used(full) != full.max) {
                full = full.parent;
            }
            Integer victim = full == null ? null : victimBelow(full, starved);
            if (victim == null) {
                endedAt = full == null ? 2 : 3;
                return victims;
            }
            Container gone = live.remove(victim);
            gone.leaf().pending[gone.user()]++;
            grant(starved);
        }
        endedAt = 0;
        return 64;
    }

    private Integer victimBelow(Queue full, Queue starved) {
        for (int id : live.descendingKeySet()) {
            Queue leaf = live.get(id).leaf();
            if (leaf != starved && leaf.isBelow(full) && used(leaf) > leaf.g) {
                return id;
            }
        }
        return null;
    }

    int lastId() {
        return nextId - 1;
    }
}
