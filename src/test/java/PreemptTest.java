/** Promise 8, and property 5 of "What holds after every call". */
public final class PreemptTest {
    private static final Check check = new Check();

    public static void main(String[] args) {
        nothingToDo();
        endsWhenNoLeafIsBelowItsGuarantee();
        endsWhenTheStarvedLeafAsksForNothing();
        endsWhenTheStarvedLeafsUsersAreAtTheLimit();
        endsWhenOnlyAnInnerQueueIsBelowItsGuarantee();
        rootThatIsALeafHasNoAncestor();
        freeUnitsAreNotTakenBack();
        takesTheLastLentUnitAndNoMore();
        fullInnerQueueInAClusterWithFreeUnits();
        nearestOfThreeFullAncestors();
        victimMayBeAnyLeafBelow();
        fillComesFirstAndIsNotCounted();
        youngestVictimAndItsRequest();
        onlyUpToTheGuarantee();
        onlyFromLeavesAboveTheirGuarantee();
        onlyForSatisfiableDemand();
        lowestStarvedLeafFirst();
        onlyBelowTheNearestFullAncestor();
        outsideWhenTheFullAncestorIsFarther();
        sixtyFourRounds();
        asManyRoundsAsUnits();
        sixteenQueues();
        check.end();
    }

    private static int at(int leaf, int user) {
        return leaf * CapacityQueues.USERS + user;
    }

    private static void nothingToDo() {
        CapacityQueues x = new CapacityQueues(4, 4);
        check.due("preempt()", x.preempt(), 0);
        x.addQueue(0, 2, 4);
        x.addQueue(0, 2, 4);
        x.submit(1, 0, 4);
        x.schedule();
        String before = State.of(x);
        check.due("preempt() without a starved leaf", x.preempt(), 0);
        check.due("state", State.of(x), before);
    }

    private static void unchangedByPreempt(String why, CapacityQueues x) {
        String before = State.of(x);
        check.due("preempt(), " + why, x.preempt(), 0);
        check.due("state, " + why, State.of(x), before);
    }

    /** Leaf 1 holds all units, only one of them guaranteed. */
    private static CapacityQueues lent(int units, int limit, int guaranteeOfLeafTwo) {
        CapacityQueues x = new CapacityQueues(units, limit);
        x.addQueue(0, 1, units);
        x.addQueue(0, guaranteeOfLeafTwo, units);
        for (int user = 0; user < CapacityQueues.USERS; user++) {
            x.submit(1, user, units);
        }
        check.due("schedule()", x.schedule(), units);
        return x;
    }

    /** "S = the lowest-id leaf with used(S) < g(S) and E(S) > 0. If there is none, the pass ends.": used(S) == g(S). */
    private static void endsWhenNoLeafIsBelowItsGuarantee() {
        CapacityQueues x = lent(8, 8, 2);
        x.submit(2, 0, 9);
        check.due("preempt() up to the guarantee", x.preempt(), 2);
        unchangedByPreempt("both leaves ask and hold their guarantees", x);
        CapacityQueues none = lent(8, 8, 0);
        none.submit(2, 0, 9);
        unchangedByPreempt("a leaf of guarantee 0 asks", none);
    }

    /** The same sentence: E(S) == 0 because nothing is pending. */
    private static void endsWhenTheStarvedLeafAsksForNothing() {
        CapacityQueues x = lent(8, 8, 4);
        unchangedByPreempt("a leaf below its guarantee without a request", x);
        x.submit(2, 0, 1);
        check.due("preempt() for one request", x.preempt(), 1);
        unchangedByPreempt("its one request is granted", x);
        x.submit(2, 0, 1);
        x.cancel(2, 0);
        unchangedByPreempt("its request is cancelled", x);
    }

    /** The same sentence: E(S) == 0 because every user who asks is at the user limit. */
    private static void endsWhenTheStarvedLeafsUsersAreAtTheLimit() {
        CapacityQueues x = lent(8, 2, 6);
        x.submit(2, 1, 9);
        x.submit(2, 2, 9);
        check.due("preempt() up to the limits", x.preempt(), 4);
        unchangedByPreempt("both users are at the limit", x);
        x.submit(2, 3, 1);
        check.due("preempt() for another user", x.preempt(), 1);
    }

    /** S is a leaf: a queue with children below its guarantee starves only through a leaf below it. */
    private static void endsWhenOnlyAnInnerQueueIsBelowItsGuarantee() {
        CapacityQueues x = lent(8, 8, 4);
        check.due("addQueue(2, 1, 8)", x.addQueue(2, 1, 8), 3);
        check.due("addQueue(2, 0, 8)", x.addQueue(2, 0, 8), 4);
        x.submit(4, 0, 9);
        unchangedByPreempt("only queue 2 is below its guarantee", x);
        x.submit(3, 0, 9);
        check.due("preempt() for leaf 3", x.preempt(), 1);
        check.due("used(2)", x.used(2), 1);
    }

    /** "the nearest proper ancestor": the root has none, and what it asks for is filled. */
    private static void rootThatIsALeafHasNoAncestor() {
        CapacityQueues x = new CapacityQueues(4, 3);
        x.submit(0, 0, 9);
        check.due("preempt() with free units", x.preempt(), 0);
        check.due("used(0), up to the user limit", x.used(0), 3);
        unchangedByPreempt("the root's user is at the limit", x);
        x.submit(0, 1, 9);
        check.due("preempt() with one free unit", x.preempt(), 0);
        check.due("used(0)", x.used(0), 4);
        unchangedByPreempt("the root is full", x);
    }

    /** "First it performs a FILL. The containers that fill creates are not counted in the answer." */
    private static void freeUnitsAreNotTakenBack() {
        CapacityQueues x = new CapacityQueues(8, 8);
        x.addQueue(0, 1, 8);
        x.addQueue(0, 5, 8);
        x.submit(1, 0, 3);
        x.schedule();
        x.submit(2, 0, 5);
        check.due("preempt() with five free units", x.preempt(), 0);
        check.due("used(1)", x.used(1), 3);
        check.due("used(2)", x.used(2), 5);
        check.granted(x, 4, at(2, 0), at(2, 0), at(2, 0), at(2, 0), at(2, 0));
    }

    /** "used(V) > g(V)": with all units guaranteed the lender is left with its guarantee, to the unit. */
    private static void takesTheLastLentUnitAndNoMore() {
        CapacityQueues x = lent(8, 64, 7);
        x.submit(2, 0, 64);
        check.due("preempt()", x.preempt(), 7);
        check.due("used(1)", x.used(1), 1);
        check.due("used(2)", x.used(2), 7);
        check.due("containerInfo(1), the oldest", x.containerInfo(1), at(1, 0));
        unchangedByPreempt("nothing is lent", x);
        check.due("setCapacity(1, 0, 8)", x.setCapacity(1, 0, 8), true);
        unchangedByPreempt("one unit is lent, but no leaf is starved", x);
        check.due("setCapacity(2, 8, 8)", x.setCapacity(2, 8, 8), true);
        check.due("preempt() for the raised guarantee", x.preempt(), 1);
        check.due("used(1)", x.used(1), 0);
    }

    /** "A = the nearest proper ancestor of S with used(A) == m(A)": the root is not full, and leaf 2 outside stays. */
    private static void fullInnerQueueInAClusterWithFreeUnits() {
        CapacityQueues x = new CapacityQueues(20, 20);
        x.addQueue(0, 6, 6);
        x.addQueue(0, 0, 5);
        x.addQueue(1, 2, 6);
        x.addQueue(1, 4, 6);
        x.submit(3, 0, 6);
        x.schedule();
        x.submit(2, 0, 5);
        x.schedule();
        x.submit(4, 0, 9);
        check.due("preempt()", x.preempt(), 4);
        check.due("used(0)", x.used(0), 11);
        check.due("used(1)", x.used(1), 6);
        check.due("used(2)", x.used(2), 5);
        check.due("used(3)", x.used(3), 2);
        check.due("used(4)", x.used(4), 4);
    }

    /** All three are full; only what is below the nearest one may be taken. */
    private static void nearestOfThreeFullAncestors() {
        CapacityQueues x = new CapacityQueues(9, 9);
        x.addQueue(0, 6, 6);
        x.addQueue(0, 0, 9);
        x.addQueue(1, 3, 3);
        x.addQueue(1, 0, 6);
        x.addQueue(3, 1, 3);
        x.addQueue(3, 0, 3);
        x.submit(6, 0, 3);
        x.schedule();
        x.submit(4, 0, 3);
        x.schedule();
        x.submit(2, 0, 3);
        x.schedule();
        x.submit(5, 0, 3);
        for (int q : new int[] {0, 1, 3}) {
            check.due("queue " + q + " is full", x.used(q), x.maxCapacity(q));
        }
        check.due("preempt()", x.preempt(), 1);
        check.granted(x, 1, at(6, 0), at(6, 0), -1, at(4, 0), at(4, 0), at(4, 0),
            at(2, 0), at(2, 0), at(2, 0), at(5, 0));
    }

    /** "a descendant of A", at any depth below it. */
    private static void victimMayBeAnyLeafBelow() {
        CapacityQueues x = new CapacityQueues(4, 4);
        x.addQueue(0, 1, 4);
        x.addQueue(0, 0, 4);
        x.addQueue(2, 0, 4);
        x.addQueue(3, 0, 4);
        x.submit(4, 3, 4);
        x.schedule();
        x.submit(1, 2, 4);
        check.due("preempt()", x.preempt(), 1);
        check.granted(x, 1, at(4, 3), at(4, 3), at(4, 3), -1, at(1, 2));
        check.due("used(2)", x.used(2), 3);
        check.due("used(3)", x.used(3), 3);
        check.due("pending(4, 3)", x.pending(4, 3), 1);
    }

    private static void fillComesFirstAndIsNotCounted() {
        CapacityQueues x = new CapacityQueues(6, 6);
        x.addQueue(0, 2, 6);
        x.addQueue(0, 4, 6);
        x.submit(1, 0, 4);
        x.schedule();
        x.submit(2, 1, 3);
        check.due("preempt()", x.preempt(), 1);
        check.granted(x, 1, at(1, 0), at(1, 0), at(1, 0), -1, at(2, 1), at(2, 1), at(2, 1));
        check.due("pending(1, 0)", x.pending(1, 0), 1);
        check.due("pending(2, 1)", x.pending(2, 1), 0);
    }

    private static void youngestVictimAndItsRequest() {
        CapacityQueues x = new CapacityQueues(6, 6);
        x.addQueue(0, 0, 6);
        x.addQueue(0, 2, 6);
        x.addQueue(0, 0, 6);
        x.submit(1, 2, 3);
        x.schedule();
        x.complete(1);
        x.submit(3, 3, 2);
        x.schedule();
        x.submit(1, 1, 2);
        x.schedule();
        // The units are held by 2 and 3 of leaf 1, 4 and 5 of leaf 3, 6 and 7 of leaf 1.
        check.granted(x, 1, -1, at(1, 2), at(1, 2), at(3, 3), at(3, 3), at(1, 1), at(1, 1));
        x.complete(6);
        x.submit(3, 0, 1);
        x.schedule();
        x.submit(2, 0, 2);
        check.due("preempt()", x.preempt(), 2);
        check.granted(x, 1, -1, at(1, 2), at(1, 2), at(3, 3), at(3, 3), -1, -1, -1, at(2, 0), at(2, 0));
        check.due("pending(3, 0)", x.pending(3, 0), 1);
        check.due("pending(1, 1)", x.pending(1, 1), 1);
        check.due("pending(1, 2)", x.pending(1, 2), 0);
        check.due("userUsed(3, 0)", x.userUsed(3, 0), 0);
        check.due("userUsed(1, 1)", x.userUsed(1, 1), 0);
        check.due("used(0)", x.used(0), 6);
        check.due("used(1)", x.used(1), 2);
        check.due("used(2)", x.used(2), 2);
        check.due("used(3)", x.used(3), 2);
    }

    private static void onlyUpToTheGuarantee() {
        CapacityQueues x = new CapacityQueues(8, 8);
        x.addQueue(0, 1, 8);
        x.addQueue(0, 3, 8);
        x.submit(1, 0, 8);
        x.schedule();
        x.submit(2, 0, 8);
        check.due("preempt()", x.preempt(), 3);
        check.due("used(1)", x.used(1), 5);
        check.due("used(2)", x.used(2), 3);
        check.due("pending(1, 0)", x.pending(1, 0), 3);
        check.due("pending(2, 0)", x.pending(2, 0), 5);
        check.due("guarantee(1)", x.guarantee(1), 1);
        check.due("guarantee(2)", x.guarantee(2), 3);
        check.due("maxCapacity(1)", x.maxCapacity(1), 8);
        check.due("maxCapacity(2)", x.maxCapacity(2), 8);
    }

    private static void onlyFromLeavesAboveTheirGuarantee() {
        CapacityQueues x = new CapacityQueues(8, 8);
        x.addQueue(0, 1, 8);
        x.addQueue(0, 2, 2);
        x.addQueue(0, 5, 8);
        x.submit(1, 0, 6);
        x.schedule();
        x.submit(2, 0, 2);
        x.schedule();
        x.submit(3, 0, 8);
        // The youngest two are in leaf 2, which holds no more than its guarantee.
        check.due("preempt()", x.preempt(), 5);
        check.due("used(1)", x.used(1), 1);
        check.due("used(2)", x.used(2), 2);
        check.due("used(3)", x.used(3), 5);
        check.granted(x, 1, at(1, 0), -1, -1, -1, -1, -1, at(2, 0), at(2, 0),
            at(3, 0), at(3, 0), at(3, 0), at(3, 0), at(3, 0));
    }

    private static void onlyForSatisfiableDemand() {
        CapacityQueues x = new CapacityQueues(8, 2);
        x.addQueue(0, 0, 8);
        x.addQueue(0, 6, 8);
        for (int user = 0; user < CapacityQueues.USERS; user++) {
            x.submit(1, user, 2);
        }
        x.schedule();
        x.submit(2, 0, 5);
        x.submit(2, 3, 1);
        check.due("preempt()", x.preempt(), 3);
        check.due("userUsed(2, 0)", x.userUsed(2, 0), 2);
        check.due("userUsed(2, 3)", x.userUsed(2, 3), 1);
        check.due("preempt() again", x.preempt(), 0);
        // The grants of the rounds take the least served user first.
        check.granted(x, 9, at(2, 0), at(2, 3), at(2, 0));
    }

    private static void lowestStarvedLeafFirst() {
        CapacityQueues x = new CapacityQueues(6, 6);
        x.addQueue(0, 0, 6);
        x.addQueue(0, 1, 6);
        x.addQueue(0, 4, 6);
        x.submit(1, 0, 6);
        x.schedule();
        x.submit(3, 1, 2);
        x.submit(2, 2, 2);
        check.due("preempt()", x.preempt(), 3);
        check.granted(x, 7, at(2, 2), at(3, 1), at(3, 1));
    }

    /** The cluster is full; leaf 3 beside the starved leaf 4 holds lent units, and leaf 2 outside holds younger ones. */
    private static CapacityQueues starvedBelowQueueOne(int maxOfQueueOne) {
        CapacityQueues x = new CapacityQueues(10, 10);
        x.addQueue(0, 6, maxOfQueueOne);
        x.addQueue(0, 2, 10);
        x.addQueue(1, 3, 6);
        x.addQueue(1, 3, 6);
        x.submit(3, 0, 6);
        x.schedule();
        x.submit(2, 0, 4);
        x.schedule();
        x.submit(4, 0, 2);
        return x;
    }

    private static void onlyBelowTheNearestFullAncestor() {
        CapacityQueues x = starvedBelowQueueOne(6);
        // Root is full too, and leaf 2 holds younger lent units, but queue 1 is full and nearer.
        check.due("preempt()", x.preempt(), 2);
        check.due("used(2)", x.used(2), 4);
        check.due("used(3)", x.used(3), 4);
        check.due("used(4)", x.used(4), 2);
        check.due("used(1)", x.used(1), 6);
        check.granted(x, 1, at(3, 0), at(3, 0), at(3, 0), at(3, 0), -1, -1,
            at(2, 0), at(2, 0), at(2, 0), at(2, 0), at(4, 0), at(4, 0));
    }

    private static void outsideWhenTheFullAncestorIsFarther() {
        CapacityQueues x = starvedBelowQueueOne(7);
        // Queue 1 has room for one: that one comes from the youngest below the root, the next from below queue 1.
        check.due("preempt()", x.preempt(), 2);
        check.due("used(2)", x.used(2), 3);
        check.due("used(3)", x.used(3), 5);
        check.due("used(4)", x.used(4), 2);
        check.due("used(1)", x.used(1), 7);
        check.due("used(0)", x.used(0), 10);
    }

    private static void sixtyFourRounds() {
        CapacityQueues x = new CapacityQueues(64, 64);
        x.addQueue(0, 0, 64);
        x.addQueue(0, 64, 64);
        x.submit(1, 0, 64);
        x.schedule();
        x.submit(2, 3, 64);
        check.due("preempt()", x.preempt(), CapacityQueues.MAX_ROUNDS);
        check.due("used(1)", x.used(1), 0);
        check.due("used(2)", x.used(2), 64);
        check.due("pending(1, 0)", x.pending(1, 0), 64);
        check.due("containerInfo(65)", x.containerInfo(65), at(2, 3));
        check.due("containerInfo(128)", x.containerInfo(128), at(2, 3));
        check.due("containerInfo(129)", x.containerInfo(129), CapacityQueues.NONE);
    }

    /** "rounds, at most MAX_ROUNDS of them": as many as are needed for every number of units up to 64. */
    private static void asManyRoundsAsUnits() {
        for (int units = 2; units <= 64; units++) {
            CapacityQueues x = lent(units, 64, units - 1);
            x.submit(2, 0, 64);
            check.due("preempt() with " + units + " units", x.preempt(), units - 1);
            check.due("used(2)", x.used(2), units - 1);
        }
    }

    private static void sixteenQueues() {
        CapacityQueues x = new CapacityQueues(64, 64);
        x.addQueue(0, 0, 64);
        for (int q = 2; q < CapacityQueues.MAX_QUEUES; q++) {
            x.addQueue(0, 3, 64);
        }
        x.submit(1, 0, 64);
        check.due("preempt() with nothing to take back", x.preempt(), 0);
        for (int q = 2; q < CapacityQueues.MAX_QUEUES; q++) {
            x.submit(q, 1, q % 2 == 0 ? 2 : 4);
        }
        check.due("preempt()", x.preempt(), 7 * 2 + 7 * 3);
        check.due("used(1)", x.used(1), 64 - 35);
        check.due("used(14)", x.used(14), 2);
        check.due("used(15)", x.used(15), 3);
        check.due("pending(15, 1)", x.pending(15, 1), 1);
    }
}
