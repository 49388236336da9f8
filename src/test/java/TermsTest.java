/** The boundary cases that the document's "Terms" name: where several are alike, and where something is at its bound. */
public final class TermsTest {
    private static final Check check = new Check();

    public static void main(String[] args) {
        rootNeverChanges();
        idsAreNumberedInOrder();
        equalRatiosOfUnlikeGuarantees();
        equalUsagesWithoutGuarantees();
        guaranteeOfOneOverfilledAgainstNone();
        oneUnitDecidesBetweenRatios();
        ratiosOfTheLargestNumbers();
        theLowestIdAmongThoseThatAreOpen();
        alikeAtTwoLevels();
        alikeUsersByTheLowestNumber();
        leastServedUserWithoutARequest();
        usageElsewhereDoesNotCountForAUser();
        userOneBelowTheLimit();
        leastServedUserAtTheLimit();
        limitsOfOneAndOfAllUnits();
        leafAtItsMaximum();
        leafWithAMaximumOfZero();
        ancestorAtItsMaximum();
        ancestorWithAMaximumOfZero();
        rootAtItsMaximum();
        maximumAboveTheParents();
        removedUnitsMakeRoomOnTheWholePath();
        check.end();
    }

    private static int at(int leaf, int user) {
        return leaf * CapacityQueues.USERS + user;
    }

    /** A root with one child for each pair of guarantee and maximum. */
    private static CapacityQueues flat(int units, int limit, int... capacities) {
        CapacityQueues x = new CapacityQueues(units, limit);
        for (int i = 0; i < capacities.length; i += 2) {
            check.due("addQueue", x.addQueue(0, capacities[i], capacities[i + 1]), 1 + i / 2);
        }
        return x;
    }

    /** Brings a leaf to its usage alone, before the others ask. */
    private static void hold(CapacityQueues x, int leaf, int user, int count) {
        x.submit(leaf, user, count);
        check.due("schedule() for leaf " + leaf, x.schedule(), count);
    }

    private static void unchangedBySchedule(CapacityQueues x, String why) {
        String before = State.of(x);
        check.due("schedule(), " + why, x.schedule(), 0);
        check.due("state, " + why, State.of(x), before);
    }

    /** "The root's guarantee and its maximum both equal C, and they never change." */
    private static void rootNeverChanges() {
        for (int units = 1; units <= 64; units++) {
            CapacityQueues x = flat(units, 64, units, units, 0, units);
            hold(x, 2, 0, units);
            x.submit(1, 0, 64);
            check.due("preempt() with " + units, x.preempt(), units);
            check.due("setCapacity(0, 0, 64)", x.setCapacity(0, 0, 64), false);
            check.due("setCapacity(0, 64, 64)", x.setCapacity(0, 64, 64), false);
            check.due("guarantee(0)", x.guarantee(0), units);
            check.due("maxCapacity(0)", x.maxCapacity(0), units);
        }
    }

    /** "Ids come from a counter that starts at 1 ... Ids are never reused.": a refused or empty call takes none. */
    private static void idsAreNumberedInOrder() {
        CapacityQueues x = flat(2, 2, 1, 2, 1, 2);
        check.due("schedule()", x.schedule(), 0);
        check.due("preempt()", x.preempt(), 0);
        check.due("complete(1)", x.complete(1), false);
        hold(x, 2, 3, 1);
        check.due("complete(1)", x.complete(1), true);
        hold(x, 1, 2, 1);
        check.granted(x, 1, -1, at(1, 2));
    }

    /** "both guarantees > 0 and used(c1)*g(c2) < used(c2)*g(c1)": 2 of 6, 1 of 3 and 3 of 9 are alike. */
    private static void equalRatiosOfUnlikeGuarantees() {
        CapacityQueues x = flat(20, 20, 6, 20, 3, 20, 9, 20);
        hold(x, 1, 0, 2);
        hold(x, 2, 0, 1);
        hold(x, 3, 0, 3);
        x.submit(3, 1, 5);
        x.submit(2, 1, 5);
        x.submit(1, 1, 5);
        x.schedule();
        check.due("first, the lowest id", x.containerInfo(7), at(1, 1));
        check.due("then the lower id of the two left", x.containerInfo(8), at(2, 1));
        check.due("then the last", x.containerInfo(9), at(3, 1));
    }

    /** "both guarantees == 0 and used(c1) < used(c2)", and alike where the usages are the same. */
    private static void equalUsagesWithoutGuarantees() {
        CapacityQueues x = flat(9, 9, 0, 9, 0, 9, 0, 9);
        hold(x, 1, 0, 2);
        hold(x, 2, 0, 1);
        hold(x, 3, 0, 1);
        for (int leaf = 3; leaf >= 1; leaf--) {
            x.submit(leaf, 1, 3);
        }
        check.due("schedule()", x.schedule(), 5);
        check.granted(x, 5, at(2, 1), at(3, 1), at(1, 1), at(2, 1), at(3, 1));
    }

    /** "g(c1) > 0 and g(c2) == 0", whatever the usages and the ids are. */
    private static void guaranteeOfOneOverfilledAgainstNone() {
        CapacityQueues x = flat(12, 12, 0, 12, 1, 12, 0, 12);
        hold(x, 2, 0, 9);
        for (int leaf = 1; leaf <= 3; leaf++) {
            x.submit(leaf, 1, leaf == 2 ? 2 : 5);
        }
        check.due("schedule()", x.schedule(), 3);
        check.granted(x, 10, at(2, 1), at(2, 1), at(1, 1));
    }

    /** 3 of 7 is lighter than 4 of 9 (27 against 28), and 4 of 7 is not lighter than 5 of 9 (36 against 35). */
    private static void oneUnitDecidesBetweenRatios() {
        CapacityQueues x = flat(20, 20, 9, 20, 7, 20);
        hold(x, 1, 0, 4);
        hold(x, 2, 0, 3);
        x.submit(1, 1, 9);
        x.submit(2, 1, 9);
        x.schedule();
        check.due("3 of 7 before 4 of 9", x.containerInfo(8), at(2, 1));
        check.due("4 of 9 before 4 of 7", x.containerInfo(9), at(1, 1));
        check.due("5 of 9 before 4 of 7", x.containerInfo(10), at(1, 1));
        check.due("4 of 7 before 6 of 9", x.containerInfo(11), at(2, 1));
    }

    private static void ratiosOfTheLargestNumbers() {
        CapacityQueues x = flat(64, 64, 1, 64, 63, 64);
        hold(x, 2, 0, 61);
        x.submit(1, 1, 3);
        x.submit(2, 1, 3);
        check.due("schedule()", x.schedule(), 3);
        check.granted(x, 62, at(1, 1), at(2, 1), at(2, 1));
    }

    /** "The LIGHTEST of a set of children" is taken of the open ones; the lower ids are closed, each for its own reason. */
    private static void theLowestIdAmongThoseThatAreOpen() {
        CapacityQueues x = flat(12, 1, 2, 12, 2, 2, 2, 12, 2, 12, 2, 12);
        check.due("setCapacity(2, 0, 0)", x.setCapacity(2, 0, 0), true);
        hold(x, 3, 0, 1);
        x.submit(3, 0, 5);
        x.submit(2, 0, 5);
        x.submit(5, 0, 5);
        x.submit(4, 0, 5);
        check.due("schedule()", x.schedule(), 2);
        check.granted(x, 2, at(4, 0), at(5, 0));
    }

    private static void alikeAtTwoLevels() {
        CapacityQueues x = flat(8, 8, 4, 8, 4, 8);
        x.addQueue(2, 2, 8);
        x.addQueue(1, 2, 8);
        x.addQueue(2, 2, 8);
        x.addQueue(1, 2, 8);
        for (int leaf = 6; leaf >= 3; leaf--) {
            x.submit(leaf, 0, 2);
        }
        check.due("schedule()", x.schedule(), 8);
        check.granted(x, 1, at(4, 0), at(3, 0), at(6, 0), at(5, 0), at(4, 0), at(3, 0), at(6, 0), at(5, 0));
    }

    /** "pick the eligible user k with the least userUsed(L,k), on a tie the lowest k" */
    private static void alikeUsersByTheLowestNumber() {
        CapacityQueues x = new CapacityQueues(10, 10);
        for (int user = 3; user >= 0; user--) {
            x.submit(0, user, 5);
        }
        check.due("schedule()", x.schedule(), 10);
        check.granted(x, 1, 0, 1, 2, 3, 0, 1, 2, 3, 0, 1);
    }

    /** "ELIGIBLE ... when pending(L,k) > 0": the least served are passed over when they ask for nothing. */
    private static void leastServedUserWithoutARequest() {
        CapacityQueues x = new CapacityQueues(6, 6);
        hold(x, 0, 2, 2);
        hold(x, 0, 3, 1);
        x.submit(0, 2, 1);
        x.submit(0, 3, 2);
        check.due("schedule()", x.schedule(), 3);
        check.granted(x, 4, 3, 2, 3);
    }

    /** The least served is counted at the leaf alone, and so is the user limit. */
    private static void usageElsewhereDoesNotCountForAUser() {
        CapacityQueues x = flat(8, 3, 0, 8, 0, 8);
        hold(x, 1, 0, 3);
        hold(x, 2, 1, 1);
        x.submit(2, 0, 4);
        x.submit(2, 1, 4);
        check.due("schedule()", x.schedule(), 4);
        check.granted(x, 5, at(2, 0), at(2, 0), at(2, 1), at(2, 0));
    }

    /** "userUsed(L,k) < UL": one below the limit gets one, at the limit none. */
    private static void userOneBelowTheLimit() {
        CapacityQueues x = new CapacityQueues(9, 4);
        hold(x, 0, 1, 3);
        x.submit(0, 1, 2);
        check.due("schedule() one below the limit", x.schedule(), 1);
        check.due("pending(0, 1)", x.pending(0, 1), 1);
        unchangedBySchedule(x, "at the limit");
        check.due("complete(2)", x.complete(2), true);
        check.due("schedule() one below the limit again", x.schedule(), 1);
        check.due("userUsed(0, 1)", x.userUsed(0, 1), 4);
    }

    /** With a limit of 2 a user who holds 2 is not eligible, so that the last units go to the others. */
    private static void leastServedUserAtTheLimit() {
        CapacityQueues x = new CapacityQueues(9, 2);
        hold(x, 0, 0, 2);
        x.submit(0, 0, 9);
        x.submit(0, 1, 1);
        x.submit(0, 3, 9);
        check.due("schedule()", x.schedule(), 3);
        check.granted(x, 3, 1, 3, 3);
        unchangedBySchedule(x, "all who ask are at the limit");
    }

    private static void limitsOfOneAndOfAllUnits() {
        CapacityQueues one = new CapacityQueues(64, 1);
        CapacityQueues all = new CapacityQueues(64, 64);
        for (int user = 0; user < CapacityQueues.USERS; user++) {
            one.submit(0, user, 64);
        }
        check.due("schedule() with a limit of 1", one.schedule(), 4);
        check.granted(one, 1, 0, 1, 2, 3);
        unchangedBySchedule(one, "each user holds one");
        all.submit(0, 3, 64);
        check.due("schedule() with a limit of 64", all.schedule(), 64);
        check.due("userUsed(0, 3)", all.userUsed(0, 3), 64);
    }

    /** "used(q) < m(q) holds for every q on the path ... both ends included": here the leaf's end. */
    private static void leafAtItsMaximum() {
        CapacityQueues x = flat(9, 9, 1, 3, 0, 9);
        hold(x, 1, 0, 2);
        x.submit(1, 0, 2);
        check.due("schedule() one below the maximum", x.schedule(), 1);
        unchangedBySchedule(x, "the leaf is at its maximum");
        x.submit(2, 0, 1);
        check.due("schedule() beside it", x.schedule(), 1);
        check.due("complete(1)", x.complete(1), true);
        check.due("schedule() after a release", x.schedule(), 1);
        check.due("used(1)", x.used(1), 3);
    }

    private static void leafWithAMaximumOfZero() {
        CapacityQueues x = flat(9, 9, 0, 0);
        x.submit(1, 0, 5);
        unchangedBySchedule(x, "the leaf's maximum is 0");
        check.due("preempt()", x.preempt(), 0);
        check.due("used(1)", x.used(1), 0);
        check.due("setCapacity(1, 0, 1)", x.setCapacity(1, 0, 1), true);
        check.due("schedule() with a maximum of 1", x.schedule(), 1);
    }

    /** A queue between root and leaf at its maximum closes all leaves below it, and none beside it. */
    private static void ancestorAtItsMaximum() {
        CapacityQueues x = flat(12, 12, 4, 5, 0, 12);
        x.addQueue(1, 2, 12);
        x.addQueue(3, 2, 12);
        x.addQueue(1, 2, 12);
        hold(x, 4, 0, 4);
        x.submit(5, 0, 3);
        x.submit(4, 0, 3);
        check.due("schedule() one below the maximum", x.schedule(), 1);
        check.due("used(1)", x.used(1), 5);
        unchangedBySchedule(x, "an ancestor is at its maximum");
        x.submit(2, 0, 2);
        check.due("schedule() beside it", x.schedule(), 2);
        check.due("complete(1)", x.complete(1), true);
        check.due("schedule() after a release", x.schedule(), 1);
        check.due("used(1)", x.used(1), 5);
    }

    private static void ancestorWithAMaximumOfZero() {
        CapacityQueues x = flat(4, 4, 0, 0);
        x.addQueue(1, 0, 4);
        x.submit(2, 0, 4);
        unchangedBySchedule(x, "the parent's maximum is 0");
    }

    /** The root's end of the path: all units are held. */
    private static void rootAtItsMaximum() {
        CapacityQueues x = flat(3, 3, 1, 3, 1, 3);
        hold(x, 1, 0, 2);
        x.submit(1, 0, 2);
        x.submit(2, 0, 2);
        check.due("schedule() with one free unit", x.schedule(), 1);
        check.due("used(2)", x.used(2), 1);
        unchangedBySchedule(x, "no unit is free");
        check.due("complete(1)", x.complete(1), true);
        check.due("schedule() after a release", x.schedule(), 1);
    }

    /** A child's maximum may be above its parent's; the lower one holds. */
    private static void maximumAboveTheParents() {
        CapacityQueues x = flat(9, 9, 0, 2);
        check.due("addQueue(1, 0, 9)", x.addQueue(1, 0, 9), 2);
        x.submit(2, 0, 9);
        check.due("schedule()", x.schedule(), 2);
    }

    /** "subtract 1 from used of V and of every ancestor of V": each of them was full before. */
    private static void removedUnitsMakeRoomOnTheWholePath() {
        CapacityQueues x = flat(3, 3, 0, 3);
        x.addQueue(1, 0, 3);
        x.addQueue(2, 0, 3);
        x.submit(3, 0, 4);
        check.due("schedule()", x.schedule(), 3);
        unchangedBySchedule(x, "the whole path is full");
        check.due("complete(2)", x.complete(2), true);
        for (int q = 0; q <= 3; q++) {
            check.due("used(" + q + ")", x.used(q), 2);
        }
        check.due("schedule()", x.schedule(), 1);
        check.granted(x, 1, at(3, 0), -1, at(3, 0), at(3, 0));
    }
}
