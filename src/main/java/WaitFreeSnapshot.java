public final class WaitFreeSnapshot {
    public static final int OK = 0;
    public static final int BAD = -1;
    public static final int STOPPED = -2;
    public static final int BUSY = -3;
    public static final int FULL = -4;
    public static final int NO_WORK = -5;
    public static final int NONE = -6;
    public static final int CLEAN = -7;

    public static final int IDLE = 0;
    public static final int SCANNING = 1;
    public static final int UPDATING = 2;
    public static final int WRITING = 3;
    public static final int HALTED = 4;

    public static final int SNAPSHOT = 0;
    public static final int HELD = 1;
    public static final int MEMORY = 2;
    public static final int READS = 3;

    private static final int LEAST_PROCESSES = 2;
    private static final int MOST_PROCESSES = 6;
    private static final int LEAST_LIMIT = 4;
    private static final int MOST_LIMIT = 128;
    private static final int MOST_STEPS_PER_RUN = 64;

    private static final int PAIRS = MOST_PROCESSES * MOST_PROCESSES;
    // One row more than writes, because version 0 has a row too.
    private static final int VERSION_CELLS = (MOST_LIMIT + 1) * MOST_PROCESSES;

    private static final int NUMBERS_PER_LIST = 8;
    private static final int BITS_PER_NUMBER = 4;
    private static final int NUMBER_MASK = 15;

    private final int processes;
    private final int limit;
    private int writes;
    private int updatesBegun;

    // Every view is some version of the array, and at most MOST_LIMIT writes are
    // ever made. So all versions are kept, and a view is no more than a number.
    private final int[] versionValue = new int[VERSION_CELLS];
    private final int[] versionCount = new int[VERSION_CELLS];
    private final int[] heldVersion = new int[MOST_PROCESSES];

    private final boolean[] isHalted = new boolean[MOST_PROCESSES];
    private final int[] phaseNow = new int[MOST_PROCESSES];
    private final int[] stepsTaken = new int[MOST_PROCESSES];
    private final int[] intended = new int[MOST_PROCESSES];
    private final int[] startWrites = new int[MOST_PROCESSES];
    private final int[] endWrites = new int[MOST_PROCESSES];
    private final int[] lentBy = new int[MOST_PROCESSES];
    private final int[] viewVersion = new int[MOST_PROCESSES];

    private final int[] collect = new int[MOST_PROCESSES];
    private final int[] nextRegister = new int[MOST_PROCESSES];
    private final int[] lastCollectWrites = new int[MOST_PROCESSES];

    // One cell for each pair of a reading process and a register. A read is kept
    // as the version that stood when it was made, which tells value and count.
    private final int[] movedCollect = new int[PAIRS];
    private final int[] firstCount = new int[PAIRS];
    private final int[] readVersion = new int[PAIRS];

    public WaitFreeSnapshot(int processes, int limit) {
        this.processes = clamp(processes, LEAST_PROCESSES, MOST_PROCESSES);
        this.limit = clamp(limit, LEAST_LIMIT, MOST_LIMIT);
        for (int p = 0; p < MOST_PROCESSES; p++) {
            forgetOperation(p);
            startWrites[p] = NONE;
        }
    }

    public int beginScan(int p) {
        int refusal = refusalToBegin(p);
        if (refusal != OK) {
            return refusal;
        }
        begin(p, SCANNING);
        return OK;
    }

    public int beginUpdate(int p, int value) {
        int refusal = refusalToBegin(p);
        if (refusal != OK) {
            return refusal;
        }
        if (updatesBegun >= limit) {
            return FULL;
        }
        updatesBegun++;
        begin(p, UPDATING);
        intended[p] = value;
        return OK;
    }

    public int run(int p, int k) {
        if (!inRange(p) || k < 1) {
            return BAD;
        }
        if (isHalted[p]) {
            return STOPPED;
        }
        if (phaseNow[p] == IDLE) {
            return NO_WORK;
        }
        int most = k > MOST_STEPS_PER_RUN ? MOST_STEPS_PER_RUN : k;
        int taken = 0;
        while (taken < most && phaseNow[p] != IDLE) {
            takeStep(p);
            taken++;
        }
        return taken;
    }

    public int schedule(int list) {
        int taken = 0;
        for (int turn = 0; turn < NUMBERS_PER_LIST; turn++) {
            int p = (list >>> (turn * BITS_PER_NUMBER)) & NUMBER_MASK;
            if (canStep(p)) {
                takeStep(p);
                taken++;
            }
        }
        return taken;
    }

    public int halt(int p) {
        if (!inRange(p)) {
            return BAD;
        }
        if (isHalted[p]) {
            return STOPPED;
        }
        isHalted[p] = true;
        return OK;
    }

    public int phase(int p) {
        if (!inRange(p)) {
            return BAD;
        }
        return isHalted[p] ? phaseNow[p] + HALTED : phaseNow[p];
    }

    public int steps(int p) {
        return inRange(p) ? stepsTaken[p] : BAD;
    }

    public int intent(int p) {
        if (!inRange(p)) {
            return 0;
        }
        boolean updateInProgress = phaseNow[p] == UPDATING || phaseNow[p] == WRITING;
        return updateInProgress ? intended[p] : 0;
    }

    public int startedAt(int p) {
        return inRange(p) ? startWrites[p] : BAD;
    }

    public int endedAt(int p) {
        return inRange(p) ? endWrites[p] : BAD;
    }

    public int lender(int p) {
        return inRange(p) ? lentBy[p] : BAD;
    }

    public int movedIn(int p, int j) {
        if (!inRange(p) || !inRange(j)) {
            return BAD;
        }
        return movedCollect[pair(p, j)];
    }

    public int value(int kind, int i, int j) {
        int v = versionTold(kind, i, j);
        return v < 0 ? 0 : versionValue[cell(v, j)];
    }

    public int count(int kind, int i, int j) {
        int v = versionTold(kind, i, j);
        return v < 0 ? v : versionCount[cell(v, j)];
    }

    public int version(int kind, int i) {
        // The reads may stem from different versions, so they have no single one.
        if (kind == READS && inRange(i)) {
            return NONE;
        }
        return versionTold(kind, i, 0);
    }

    private static int clamp(int number, int least, int greatest) {
        if (number < least) {
            return least;
        }
        return number > greatest ? greatest : number;
    }

    private static int pair(int p, int j) {
        return p * MOST_PROCESSES + j;
    }

    private static int cell(int v, int j) {
        return v * MOST_PROCESSES + j;
    }

    private boolean inRange(int p) {
        return p >= 0 && p < processes;
    }

    private int versionTold(int kind, int i, int j) {
        if (!inRange(i) || !inRange(j)) {
            return BAD;
        }
        switch (kind) {
            case SNAPSHOT:
                return viewVersion[i];
            case HELD:
                return heldVersion[i];
            case MEMORY:
                return writes;
            case READS:
                return readVersion[pair(i, j)];
            default:
                return BAD;
        }
    }

    private boolean canStep(int p) {
        return inRange(p) && !isHalted[p] && phaseNow[p] != IDLE;
    }

    private int refusalToBegin(int p) {
        if (!inRange(p)) {
            return BAD;
        }
        if (isHalted[p]) {
            return STOPPED;
        }
        return phaseNow[p] == IDLE ? OK : BUSY;
    }

    private void begin(int p, int phase) {
        forgetOperation(p);
        phaseNow[p] = phase;
        startWrites[p] = writes;
    }

    private void forgetOperation(int p) {
        stepsTaken[p] = 0;
        endWrites[p] = NONE;
        lentBy[p] = NONE;
        viewVersion[p] = NONE;
        collect[p] = 1;
        nextRegister[p] = 0;
        for (int j = 0; j < MOST_PROCESSES; j++) {
            movedCollect[pair(p, j)] = 0;
            readVersion[pair(p, j)] = NONE;
        }
    }

    private void takeStep(int p) {
        stepsTaken[p]++;
        if (phaseNow[p] == WRITING) {
            write(p);
        } else {
            read(p, nextRegister[p]);
        }
    }

    // There is a row left: a write is made once by each update, and its update is
    // among the MOST_LIMIT begun at most.
    private void write(int p) {
        int before = cell(writes, 0);
        int after = before + MOST_PROCESSES;
        for (int j = 0; j < MOST_PROCESSES; j++) {
            versionValue[after + j] = versionValue[before + j];
            versionCount[after + j] = versionCount[before + j];
        }
        versionValue[after + p] = intended[p];
        versionCount[after + p]++;
        heldVersion[p] = viewVersion[p];
        writes++;
        phaseNow[p] = IDLE;
    }

    private void read(int p, int j) {
        noteRead(p, j);
        if (movedTwice(p, j)) {
            endReading(p, heldVersion[j], j);
        } else if (j < processes - 1) {
            nextRegister[p] = j + 1;
        } else if (collectWasClean(p)) {
            endReading(p, lastCollectWrites[p], CLEAN);
        } else {
            startNextCollect(p);
        }
    }

    // From collect 2 on the read of the collect before stands in readVersion, so the
    // version looked up there is never NONE.
    private void noteRead(int p, int j) {
        int place = pair(p, j);
        int found = versionCount[cell(writes, j)];
        if (collect[p] == 1) {
            firstCount[place] = found;
        } else if (found > versionCount[cell(readVersion[place], j)]) {
            movedCollect[place] = collect[p];
        }
        readVersion[place] = writes;
    }

    // The update of the second write began after this operation's first read of j,
    // so its view lies within this operation's own reading and may be borrowed.
    // In collect 1 this is never so, because the count found is then the first.
    private boolean movedTwice(int p, int j) {
        int found = versionCount[cell(writes, j)];
        return found - firstCount[pair(p, j)] >= 2;
    }

    private boolean collectWasClean(int p) {
        if (collect[p] == 1) {
            return false;
        }
        for (int i = 0; i < processes; i++) {
            if (movedCollect[pair(p, i)] == collect[p]) {
                return false;
            }
        }
        return true;
    }

    private void startNextCollect(int p) {
        lastCollectWrites[p] = writes;
        collect[p]++;
        nextRegister[p] = 0;
    }

    private void endReading(int p, int view, int lender) {
        viewVersion[p] = view;
        lentBy[p] = lender;
        endWrites[p] = writes;
        phaseNow[p] = phaseNow[p] == SCANNING ? IDLE : WRITING;
    }
}
