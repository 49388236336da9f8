/** A call as data, so that the same one can be made on an object, on its twin and on the model. A boolean counts 1 or 0. */
record Call(String name, int... args) {
    int on(CapacityQueues x) {
        return switch (name) {
            case "addQueue" -> x.addQueue(args[0], args[1], args[2]);
            case "setCapacity" -> x.setCapacity(args[0], args[1], args[2]) ? 1 : 0;
            case "submit" -> x.submit(args[0], args[1], args[2]) ? 1 : 0;
            case "cancel" -> x.cancel(args[0], args[1]);
            case "complete" -> x.complete(args[0]) ? 1 : 0;
            case "schedule" -> x.schedule();
            case "preempt" -> x.preempt();
            default -> throw new IllegalArgumentException(name);
        };
    }

    int on(Model m) {
        return switch (name) {
            case "addQueue" -> m.addQueue(args[0], args[1], args[2]);
            case "setCapacity" -> m.setCapacity(args[0], args[1], args[2]) ? 1 : 0;
            case "submit" -> m.submit(args[0], args[1], args[2]) ? 1 : 0;
            case "cancel" -> m.cancel(args[0], args[1]);
            case "complete" -> m.complete(args[0]) ? 1 : 0;
            case "schedule" -> m.schedule();
            case "preempt" -> m.preempt();
            default -> throw new IllegalArgumentException(name);
        };
    }

    /** What the call answers when it is refused. */
    int refusal() {
        return name.equals("addQueue") || name.equals("cancel") ? CapacityQueues.NONE : 0;
    }

    @Override
    public String toString() {
        StringBuilder text = new StringBuilder(name).append('(');
        for (int i = 0; i < args.length; i++) {
            text.append(i == 0 ? "" : ", ").append(args[i]);
        }
        return text.append(')').toString();
    }
}
