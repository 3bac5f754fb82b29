/**
 * The states in which a call can find a process. Each is reached from a process that has
 * begun nothing, by its own steps alone, while no register moves.
 */
enum State {
    NEVER(Check.IDLE, 0, 0),
    SCAN_BEGUN(Check.SCANNING, 0, 0),
    SCAN_IN_COLLECT_1(Check.SCANNING, 0, 1),
    SCAN_IN_COLLECT_2(Check.SCANNING, 1, 1),
    SCAN_FINISHED(Check.IDLE, 2, 0),
    UPDATE_BEGUN(Check.UPDATING, 0, 0),
    UPDATE_IN_COLLECT_1(Check.UPDATING, 0, 1),
    UPDATE_IN_COLLECT_2(Check.UPDATING, 1, 1),
    UPDATE_BEFORE_ITS_WRITE(Check.WRITING, 2, 0),
    UPDATE_FINISHED(Check.IDLE, 2, 1);

    final int phase;
    private final int collects;
    private final int further;

    State(int phase, int collects, int further) {
        this.phase = phase;
        this.collects = collects;
        this.further = further;
    }

    int steps(int n) {
        return collects * n + further;
    }

    boolean began() {
        return this != NEVER;
    }

    boolean inProgress() {
        return phase != Check.IDLE;
    }

    boolean isUpdate() {
        return phase >= Check.UPDATING || this == UPDATE_FINISHED;
    }

    boolean hasView() {
        return collects == 2;
    }

    boolean hasRead(int j, int n) {
        return steps(n) > j;
    }

    /** Brings process p there; an update is to write the value. */
    void bring(WaitFreeSnapshot x, int n, int p, int value) {
        if (!began()) {
            return;
        }
        Check.due("the begin of " + this, isUpdate() ? x.beginUpdate(p, value) : x.beginScan(p), Check.OK);
        if (steps(n) > 0) {
            Check.due("the steps of " + this, x.run(p, steps(n)), steps(n));
        }
    }
}
