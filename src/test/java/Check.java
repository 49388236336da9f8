/** Counts and prints the answers that are not as due. */
final class Check {
    private int wrong = 0;

    void due(String call, long got, long want) {
        if (got != want) {
            report(call, String.valueOf(got), String.valueOf(want));
        }
    }

    void due(String call, boolean got, boolean want) {
        if (got != want) {
            report(call, String.valueOf(got), String.valueOf(want));
        }
    }

    void due(String call, String got, String want) {
        if (!got.equals(want)) {
            report(call, "\n" + got, "\n" + want);
        }
    }

    /** Grants are told apart by their containerInfo, so a list of these shows who got what, and when. */
    void granted(CapacityQueues x, int firstId, int... infos) {
        for (int i = 0; i < infos.length; i++) {
            due("containerInfo(" + (firstId + i) + ")", x.containerInfo(firstId + i), infos[i]);
        }
        due("containerInfo after the last", x.containerInfo(firstId + infos.length), CapacityQueues.NONE);
    }

    private void report(String call, String got, String want) {
        wrong++;
        System.out.println(call + " answered " + got + ", due is " + want);
    }

    void end() {
        System.out.println(wrong == 0 ? "all answers are as due" : wrong + " answers are not as due");
        if (wrong != 0) {
            System.exit(1);
        }
    }
}
