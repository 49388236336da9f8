/** All that the readers reveal of an object, as one text, so that "nothing changes" can be tested. */
final class State {
    private static final int LAST_ID = 400;

    private State() {
    }

    static String of(CapacityQueues x) {
        StringBuilder text = new StringBuilder();
        text.append("queues ").append(x.queueCount()).append(" limit ").append(x.userLimit()).append('\n');
        text.append(queues(x, -1, x.queueCount()));
        return text.append(containers(x)).toString();
    }

    static String queues(CapacityQueues x, int first, int last) {
        StringBuilder text = new StringBuilder();
        for (int q = first; q <= last; q++) {
            text.append(queue(x, q)).append('\n');
        }
        return text.toString();
    }

    static String queue(CapacityQueues x, int q) {
        StringBuilder text = new StringBuilder("q" + q + " parent " + x.parentOf(q));
        text.append(" g ").append(x.guarantee(q)).append(" max ").append(x.maxCapacity(q));
        text.append(" used ").append(x.used(q));
        for (int user = -1; user <= CapacityQueues.USERS; user++) {
            text.append(" u").append(user).append(' ').append(x.pending(q, user));
            text.append('/').append(x.userUsed(q, user));
        }
        return text.toString();
    }

    static String containers(CapacityQueues x) {
        StringBuilder text = new StringBuilder();
        for (int id = -1; id <= LAST_ID; id++) {
            int info = x.containerInfo(id);
            if (info != CapacityQueues.NONE) {
                text.append(id).append(':').append(info).append(' ');
            }
        }
        return text.toString();
    }
}
