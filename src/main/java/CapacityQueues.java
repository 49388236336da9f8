/** Shares the container units of a cluster among a tree of queues with guarantees and limits. */
public final class CapacityQueues {
    public static final int NONE = -1;
    public static final int MAX_QUEUES = 16;
    public static final int USERS = 4;
    public static final int MAX_SUBMIT = 64;
    public static final int MAX_ROUNDS = 64;

    private static final int ROOT = 0;
    private static final int MAX_UNITS = 64;
    private static final int QUEUE_USERS = MAX_QUEUES * USERS;
    private static final long FREE_SLOT = 0L;

    private final int units;
    private final int limitPerUser;
    private int queues;
    // A long, so that no container can ever get an id that was issued before.
    private long nextId;

    private final int[] parents = new int[MAX_QUEUES];
    private final int[] childCounts = new int[MAX_QUEUES];
    private final int[] guarantees = new int[MAX_QUEUES];
    private final int[] maximums = new int[MAX_QUEUES];
    private final int[] usages = new int[MAX_QUEUES];

    // Both are indexed by queue * USERS + user.
    private final int[] requested = new int[QUEUE_USERS];
    private final int[] held = new int[QUEUE_USERS];

    // Live containers never outnumber the units, so gone ones need no room: their slots are used anew.
    private final long[] slotIds = new long[MAX_UNITS];
    private final int[] slotLeaves = new int[MAX_UNITS];
    private final int[] slotUsers = new int[MAX_UNITS];

    // Holds only from markOpenQueues to the next change of a usage, a request or a capacity.
    private final boolean[] open = new boolean[MAX_QUEUES];

    public CapacityQueues(int clusterUnits, int userLimit) {
        units = clampToUnits(clusterUnits);
        limitPerUser = clampToUnits(userLimit);
        queues = 1;
        nextId = 1L;
        parents[ROOT] = NONE;
        guarantees[ROOT] = units;
        maximums[ROOT] = units;
    }

    public int addQueue(int parent, int g, int max) {
        if (queues >= MAX_QUEUES || !isQueue(parent) || isBusyLeaf(parent)) {
            return NONE;
        }
        if (g < 0 || max < g || max > units) {
            return NONE;
        }
        if (childGuarantees(parent) + g > guarantees[parent]) {
            return NONE;
        }
        int q = queues;
        queues++;
        parents[q] = parent;
        childCounts[parent]++;
        guarantees[q] = g;
        maximums[q] = max;
        return q;
    }

    public boolean setCapacity(int q, int g, int max) {
        if (!isQueue(q) || q == ROOT) {
            return false;
        }
        if (g < 0 || max < g || max > units || max < usages[q]) {
            return false;
        }
        if (g < childGuarantees(q)) {
            return false;
        }
        int parent = parents[q];
        int siblingGuarantees = childGuarantees(parent) - guarantees[q];
        if (siblingGuarantees + g > guarantees[parent]) {
            return false;
        }
        guarantees[q] = g;
        maximums[q] = max;
        return true;
    }

    public boolean submit(int leaf, int user, int count) {
        if (!isLeaf(leaf) || !isUser(user)) {
            return false;
        }
        if (count < 1 || count > MAX_SUBMIT) {
            return false;
        }
        requested[leaf * USERS + user] += count;
        return true;
    }

    public int cancel(int leaf, int user) {
        if (!isLeaf(leaf) || !isUser(user)) {
            return NONE;
        }
        int dropped = requested[leaf * USERS + user];
        requested[leaf * USERS + user] = 0;
        return dropped;
    }

    public boolean complete(int id) {
        int slot = slotOf(id);
        if (slot == NONE) {
            return false;
        }
        remove(slot);
        return true;
    }

    public int schedule() {
        return fill();
    }

    public int preempt() {
        fill();
        int victims = 0;
        for (int round = 0; round < MAX_ROUNDS; round++) {
            if (!takeBackOneUnit()) {
                break;
            }
            victims++;
        }
        return victims;
    }

    public int queueCount() {
        return queues;
    }

    public int parentOf(int q) {
        return isQueue(q) ? parents[q] : NONE;
    }

    public int guarantee(int q) {
        return isQueue(q) ? guarantees[q] : NONE;
    }

    public int maxCapacity(int q) {
        return isQueue(q) ? maximums[q] : NONE;
    }

    public int used(int q) {
        return isQueue(q) ? usages[q] : NONE;
    }

    public int pending(int q, int user) {
        if (!isQueue(q) || !isUser(user)) {
            return NONE;
        }
        return isLeaf(q) ? requested[q * USERS + user] : 0;
    }

    public int userUsed(int q, int user) {
        if (!isQueue(q) || !isUser(user)) {
            return NONE;
        }
        return isLeaf(q) ? held[q * USERS + user] : 0;
    }

    public int userLimit() {
        return limitPerUser;
    }

    public int containerInfo(int id) {
        int slot = slotOf(id);
        return slot == NONE ? NONE : slotLeaves[slot] * USERS + slotUsers[slot];
    }

    private static int clampToUnits(int value) {
        if (value < 1) {
            return 1;
        }
        return value > MAX_UNITS ? MAX_UNITS : value;
    }

    private static boolean isUser(int user) {
        return user >= 0 && user < USERS;
    }

    private boolean isQueue(int q) {
        return q >= 0 && q < queues;
    }

    private boolean isLeaf(int q) {
        return isQueue(q) && childCounts[q] == 0;
    }

    private boolean isBusyLeaf(int q) {
        if (!isLeaf(q)) {
            return false;
        }
        if (usages[q] > 0) {
            return true;
        }
        for (int user = 0; user < USERS; user++) {
            if (requested[q * USERS + user] > 0) {
                return true;
            }
        }
        return false;
    }

    private int childGuarantees(int parent) {
        int sum = 0;
        for (int q = 0; q < queues; q++) {
            if (parents[q] == parent) {
                sum += guarantees[q];
            }
        }
        return sum;
    }

    private int slotOf(int id) {
        if (id <= 0) {
            return NONE;
        }
        return slotHolding(id);
    }

    private int slotHolding(long id) {
        for (int slot = 0; slot < MAX_UNITS; slot++) {
            if (slotIds[slot] == id) {
                return slot;
            }
        }
        return NONE;
    }

    private int fill() {
        int created = 0;
        for (int step = 0; step < units; step++) {
            markOpenQueues();
            if (!open[ROOT]) {
                break;
            }
            int leaf = lightestOpenLeaf();
            grant(leaf);
            created++;
        }
        return created;
    }

    private void markOpenQueues() {
        for (int q = 0; q < queues; q++) {
            open[q] = false;
        }
        // A child's id is above its parent's, so going down settles the children before the parent.
        for (int q = queues - 1; q >= 0; q--) {
            if (childCounts[q] == 0) {
                open[q] = eligibleDemand(q) > 0 && pathHasRoom(q);
            }
            if (open[q] && q != ROOT) {
                open[parents[q]] = true;
            }
        }
    }

    // A long, because a request count that has wrapped around could make an int sum wrap too.
    private long eligibleDemand(int leaf) {
        long demand = 0L;
        for (int user = 0; user < USERS; user++) {
            int wanted = requested[leaf * USERS + user];
            int room = limitPerUser - held[leaf * USERS + user];
            if (room > 0) {
                demand += wanted < room ? wanted : room;
            }
        }
        return demand;
    }

    private boolean pathHasRoom(int leaf) {
        int q = leaf;
        for (int level = 0; level < MAX_QUEUES && q != NONE; level++) {
            if (usages[q] >= maximums[q]) {
                return false;
            }
            q = parents[q];
        }
        return true;
    }

    private int lightestOpenLeaf() {
        int q = ROOT;
        for (int level = 0; level < MAX_QUEUES && childCounts[q] > 0; level++) {
            int child = lightestOpenChild(q);
            if (child == NONE) {
                break;
            }
            q = child;
        }
        return q;
    }

    private int lightestOpenChild(int parent) {
        int lightest = NONE;
        for (int q = 0; q < queues; q++) {
            if (parents[q] == parent && open[q] && (lightest == NONE || isLighter(q, lightest))) {
                lightest = q;
            }
        }
        return lightest;
    }

    private boolean isLighter(int a, int b) {
        if (guarantees[a] > 0 && guarantees[b] > 0) {
            return usages[a] * guarantees[b] < usages[b] * guarantees[a];
        }
        if (guarantees[a] == 0 && guarantees[b] == 0) {
            return usages[a] < usages[b];
        }
        return guarantees[a] > 0;
    }

    private void grant(int leaf) {
        int user = leastServedUser(leaf);
        int slot = slotHolding(FREE_SLOT);
        if (user == NONE || slot == NONE) {
            return;
        }
        requested[leaf * USERS + user]--;
        held[leaf * USERS + user]++;
        slotIds[slot] = nextId;
        slotLeaves[slot] = leaf;
        slotUsers[slot] = user;
        nextId++;
        addToPath(leaf, 1);
    }

    private int leastServedUser(int leaf) {
        int least = NONE;
        for (int user = 0; user < USERS; user++) {
            int at = leaf * USERS + user;
            boolean eligible = requested[at] > 0 && held[at] < limitPerUser;
            if (eligible && (least == NONE || held[at] < held[leaf * USERS + least])) {
                least = user;
            }
        }
        return least;
    }

    private void remove(int slot) {
        int leaf = slotLeaves[slot];
        held[leaf * USERS + slotUsers[slot]]--;
        slotIds[slot] = FREE_SLOT;
        addToPath(leaf, -1);
    }

    private void addToPath(int leaf, int change) {
        int q = leaf;
        for (int level = 0; level < MAX_QUEUES && q != NONE; level++) {
            usages[q] += change;
            q = parents[q];
        }
    }

    private boolean takeBackOneUnit() {
        int starved = lowestStarvedLeaf();
        if (starved == NONE) {
            return false;
        }
        int full = nearestFullAncestor(starved);
        if (full == NONE) {
            return false;
        }
        int victim = youngestBorrowedSlot(full, starved);
        if (victim == NONE) {
            return false;
        }
        // Read first: the grant may put its new container into the victim's slot.
        int at = slotLeaves[victim] * USERS + slotUsers[victim];
        remove(victim);
        requested[at]++;
        grant(starved);
        return true;
    }

    private int lowestStarvedLeaf() {
        for (int q = 0; q < queues; q++) {
            if (childCounts[q] == 0 && usages[q] < guarantees[q] && eligibleDemand(q) > 0) {
                return q;
            }
        }
        return NONE;
    }

    private int nearestFullAncestor(int leaf) {
        int q = parents[leaf];
        for (int level = 0; level < MAX_QUEUES && q != NONE; level++) {
            if (usages[q] == maximums[q]) {
                return q;
            }
            q = parents[q];
        }
        return NONE;
    }

    private int youngestBorrowedSlot(int ancestor, int starved) {
        int youngest = NONE;
        for (int slot = 0; slot < MAX_UNITS; slot++) {
            if (slotIds[slot] == FREE_SLOT || !isBorrower(slotLeaves[slot], ancestor, starved)) {
                continue;
            }
            if (youngest == NONE || slotIds[slot] > slotIds[youngest]) {
                youngest = slot;
            }
        }
        return youngest;
    }

    private boolean isBorrower(int leaf, int ancestor, int starved) {
        return leaf != starved && usages[leaf] > guarantees[leaf] && isBelow(leaf, ancestor);
    }

    private boolean isBelow(int leaf, int ancestor) {
        int q = parents[leaf];
        for (int level = 0; level < MAX_QUEUES && q != NONE; level++) {
            if (q == ancestor) {
                return true;
            }
            q = parents[q];
        }
        return false;
    }
}
